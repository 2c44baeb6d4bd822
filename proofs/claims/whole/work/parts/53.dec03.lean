theorem k11_132 : (Jvm.Cond.code ({ cls := "ChanceArenaModel", name := "loosest", desc := "(II)I" } : Jvm.MethodName) prog_15_method_36_code (8 : Nat) (Option.some Jvm.ClassFile.FieldType.int)) ∈ lw_R := zR (zk_11 _ (List.mem_of_getElem? (i := 132) (by decide +kernel))) rfl
theorem k11_133 : (Jvm.Cond.methodLink "ChanceArenaModel" (307 : Nat) ({ cls := "ChanceArenaModel", name := "looseness", desc := "(II)I" } : Jvm.MethodName)) ∈ lw_R := zR (zk_11 _ (List.mem_of_getElem? (i := 133) (by decide +kernel))) rfl
theorem k11_135 : (Jvm.Cond.instanceMethod ({ cls := "ChanceArenaModel", name := "looseness", desc := "(II)I" } : Jvm.MethodName)) ∈ lw_R := zR (zk_11 _ (List.mem_of_getElem? (i := 135) (by decide +kernel))) rfl
theorem k11_152 : (Jvm.Cond.code ({ cls := "ChanceArenaModel", name := "colonOf", desc := "(II)I" } : Jvm.MethodName) prog_15_method_37_code (8 : Nat) (Option.some Jvm.ClassFile.FieldType.int)) ∈ lw_R := zR (zk_11 _ (List.mem_of_getElem? (i := 152) (by decide +kernel))) rfl
theorem d_MM_loosest_0 : decode prog_15_method_36_code 0 = .ok (.iconst (-1), 1) := by decide +kernel
theorem d_MM_loosest_1 : decode prog_15_method_36_code 1 = .ok (.istore_n 3, 1) := by decide +kernel
theorem d_MM_loosest_2 : decode prog_15_method_36_code 2 = .ok (.iconst 0, 1) := by decide +kernel
theorem d_MM_loosest_3 : decode prog_15_method_36_code 3 = .ok (.istore 4, 2) := by decide +kernel
theorem d_MM_loosest_5 : decode prog_15_method_36_code 5 = .ok (.iconst 0, 1) := by decide +kernel
theorem d_MM_loosest_6 : decode prog_15_method_36_code 6 = .ok (.istore 5, 2) := by decide +kernel
theorem d_MM_loosest_8 : decode prog_15_method_36_code 8 = .ok (.iload_n 1, 1) := by decide +kernel
theorem d_MM_loosest_9 : decode prog_15_method_36_code 9 = .ok (.istore 6, 2) := by decide +kernel
theorem d_MM_loosest_11 : decode prog_15_method_36_code 11 = .ok (.iload 6, 2) := by decide +kernel
theorem d_MM_loosest_13 : decode prog_15_method_36_code 13 = .ok (.iload_n 2, 1) := by decide +kernel
theorem d_MM_loosest_14 : decode prog_15_method_36_code 14 = .ok (.if_icmp .ge 104, 3) := by decide +kernel
theorem d_MM_loosest_118 : decode prog_15_method_36_code 118 = .ok (.aload_n 0, 1) := by decide +kernel
theorem d_MM_loosest_119 : decode prog_15_method_36_code 119 = .ok (.iload_n 1, 1) := by decide +kernel
theorem d_MM_loosest_120 : decode prog_15_method_36_code 120 = .ok (.invokevirtual 302, 3) := by decide +kernel
theorem d_MM_loosest_123 : decode prog_15_method_36_code 123 = .ok (.bipush 31, 2) := by decide +kernel
theorem d_MM_loosest_125 : decode prog_15_method_36_code 125 = .ok (.if_icmp .ne 13, 3) := by decide +kernel
theorem d_MM_loosest_138 : decode prog_15_method_36_code 138 = .ok (.iload_n 3, 1) := by decide +kernel
theorem d_MM_loosest_139 : decode prog_15_method_36_code 139 = .ok (.ireturn, 1) := by decide +kernel
theorem d_MM_loosest_128 : decode prog_15_method_36_code 128 = .ok (.iload 4, 2) := by decide +kernel
theorem d_MM_loosest_130 : decode prog_15_method_36_code 130 = .ok (.iconst 4, 1) := by decide +kernel
theorem d_MM_loosest_131 : decode prog_15_method_36_code 131 = .ok (.if_icmp .ge 7, 3) := by decide +kernel
theorem d_MM_loosest_134 : decode prog_15_method_36_code 134 = .ok (.iconst (-1), 1) := by decide +kernel
theorem d_MM_loosest_135 : decode prog_15_method_36_code 135 = .ok (.goto 4, 3) := by decide +kernel
theorem d_MM_loosest_17 : decode prog_15_method_36_code 17 = .ok (.aload_n 0, 1) := by decide +kernel
theorem d_MM_loosest_18 : decode prog_15_method_36_code 18 = .ok (.iload 6, 2) := by decide +kernel
theorem d_MM_loosest_20 : decode prog_15_method_36_code 20 = .ok (.invokevirtual 302, 3) := by decide +kernel
theorem d_MM_loosest_23 : decode prog_15_method_36_code 23 = .ok (.bipush 37, 2) := by decide +kernel
theorem d_MM_loosest_25 : decode prog_15_method_36_code 25 = .ok (.if_icmp .ne 10, 3) := by decide +kernel
theorem d_MM_loosest_35 : decode prog_15_method_36_code 35 = .ok (.iload 5, 2) := by decide +kernel
theorem d_MM_loosest_37 : decode prog_15_method_36_code 37 = .ok (.istore 5, 2) := by decide +kernel
theorem d_MM_loosest_39 : decode prog_15_method_36_code 39 = .ok (.iload 5, 2) := by decide +kernel
theorem d_MM_loosest_41 : decode prog_15_method_36_code 41 = .ok (.ifCond .ne 13, 3) := by decide +kernel
theorem d_MM_loosest_54 : decode prog_15_method_36_code 54 = .ok (.iconst 0, 1) := by decide +kernel
theorem d_MM_loosest_44 : decode prog_15_method_36_code 44 = .ok (.aload_n 0, 1) := by decide +kernel
theorem d_MM_loosest_45 : decode prog_15_method_36_code 45 = .ok (.iload 6, 2) := by decide +kernel
theorem d_MM_loosest_47 : decode prog_15_method_36_code 47 = .ok (.iload_n 1, 1) := by decide +kernel
theorem d_MM_loosest_48 : decode prog_15_method_36_code 48 = .ok (.invokevirtual 307, 3) := by decide +kernel
theorem ks_MM_looseness : Cond.selects "ChanceArenaModel" ({ cls := "ChanceArenaModel", name := "looseness", desc := "(II)I" } : Jvm.MethodName) ({ cls := "ChanceArenaModel", name := "looseness", desc := "(II)I" } : Jvm.MethodName) ∈ lw_R := zR (List.mem_append_left _ (List.mem_of_getElem? (i := 104) (by decide +kernel))) rfl
theorem d_MM_loosest_51 : decode prog_15_method_36_code 51 = .ok (.goto 4, 3) := by decide +kernel
theorem d_MM_loosest_28 : decode prog_15_method_36_code 28 = .ok (.iload 5, 2) := by decide +kernel
theorem d_MM_loosest_30 : decode prog_15_method_36_code 30 = .ok (.iconst 1, 1) := by decide +kernel
theorem d_MM_loosest_31 : decode prog_15_method_36_code 31 = .ok (.isub, 1) := by decide +kernel
theorem d_MM_loosest_32 : decode prog_15_method_36_code 32 = .ok (.goto 5, 3) := by decide +kernel
theorem d_MM_loosest_55 : decode prog_15_method_36_code 55 = .ok (.istore 7, 2) := by decide +kernel
theorem d_MM_loosest_57 : decode prog_15_method_36_code 57 = .ok (.iload 7, 2) := by decide +kernel
theorem d_MM_loosest_59 : decode prog_15_method_36_code 59 = .ok (.iload 4, 2) := by decide +kernel
theorem d_MM_loosest_61 : decode prog_15_method_36_code 61 = .ok (.if_icmp .gt 22, 3) := by decide +kernel
theorem d_MM_loosest_83 : decode prog_15_method_36_code 83 = .ok (.iload 7, 2) := by decide +kernel
theorem d_MM_loosest_85 : decode prog_15_method_36_code 85 = .ok (.istore 4, 2) := by decide +kernel
theorem d_MM_loosest_87 : decode prog_15_method_36_code 87 = .ok (.iload 6, 2) := by decide +kernel
theorem d_MM_loosest_89 : decode prog_15_method_36_code 89 = .ok (.istore_n 3, 1) := by decide +kernel
theorem d_MM_loosest_90 : decode prog_15_method_36_code 90 = .ok (.aload_n 0, 1) := by decide +kernel
theorem d_MM_loosest_91 : decode prog_15_method_36_code 91 = .ok (.iload 6, 2) := by decide +kernel
theorem d_MM_loosest_93 : decode prog_15_method_36_code 93 = .ok (.invokevirtual 302, 3) := by decide +kernel
theorem d_MM_loosest_96 : decode prog_15_method_36_code 96 = .ok (.bipush 36, 2) := by decide +kernel
theorem d_MM_loosest_98 : decode prog_15_method_36_code 98 = .ok (.if_icmp .ne 10, 3) := by decide +kernel
theorem d_MM_loosest_108 : decode prog_15_method_36_code 108 = .ok (.iload 5, 2) := by decide +kernel
theorem d_MM_loosest_110 : decode prog_15_method_36_code 110 = .ok (.istore 5, 2) := by decide +kernel
theorem d_MM_loosest_112 : decode prog_15_method_36_code 112 = .ok (.iinc 6 1, 3) := by decide +kernel
theorem d_MM_loosest_115 : decode prog_15_method_36_code 115 = .ok (.goto (-104), 3) := by decide +kernel
theorem d_MM_loosest_101 : decode prog_15_method_36_code 101 = .ok (.iload 5, 2) := by decide +kernel
theorem d_MM_loosest_103 : decode prog_15_method_36_code 103 = .ok (.iconst 1, 1) := by decide +kernel
theorem d_MM_loosest_104 : decode prog_15_method_36_code 104 = .ok (.iadd, 1) := by decide +kernel
theorem d_MM_loosest_105 : decode prog_15_method_36_code 105 = .ok (.goto 5, 3) := by decide +kernel
theorem d_MM_loosest_64 : decode prog_15_method_36_code 64 = .ok (.iload 7, 2) := by decide +kernel
theorem d_MM_loosest_66 : decode prog_15_method_36_code 66 = .ok (.ifCond .le 24, 3) := by decide +kernel
theorem d_MM_loosest_69 : decode prog_15_method_36_code 69 = .ok (.iload 7, 2) := by decide +kernel
theorem d_MM_loosest_71 : decode prog_15_method_36_code 71 = .ok (.iload 4, 2) := by decide +kernel
theorem d_MM_loosest_73 : decode prog_15_method_36_code 73 = .ok (.if_icmp .ne 17, 3) := by decide +kernel
theorem d_MM_loosest_76 : decode prog_15_method_36_code 76 = .ok (.iload 7, 2) := by decide +kernel
theorem d_MM_loosest_78 : decode prog_15_method_36_code 78 = .ok (.bipush 6, 2) := by decide +kernel
theorem d_MM_loosest_80 : decode prog_15_method_36_code 80 = .ok (.if_icmp .ge 10, 3) := by decide +kernel
theorem d_MM_colonOf_0 : decode prog_15_method_37_code 0 = .ok (.iconst 0, 1) := by decide +kernel
theorem d_MM_colonOf_1 : decode prog_15_method_37_code 1 = .ok (.istore_n 3, 1) := by decide +kernel
theorem d_MM_colonOf_2 : decode prog_15_method_37_code 2 = .ok (.iconst 0, 1) := by decide +kernel
theorem d_MM_colonOf_3 : decode prog_15_method_37_code 3 = .ok (.istore 4, 2) := by decide +kernel
theorem d_MM_colonOf_5 : decode prog_15_method_37_code 5 = .ok (.iload_n 1, 1) := by decide +kernel
theorem d_MM_colonOf_6 : decode prog_15_method_37_code 6 = .ok (.istore 5, 2) := by decide +kernel
theorem d_MM_colonOf_8 : decode prog_15_method_37_code 8 = .ok (.iconst 0, 1) := by decide +kernel
theorem d_MM_colonOf_9 : decode prog_15_method_37_code 9 = .ok (.istore 6, 2) := by decide +kernel
theorem d_MM_colonOf_11 : decode prog_15_method_37_code 11 = .ok (.iload 6, 2) := by decide +kernel
theorem d_MM_colonOf_13 : decode prog_15_method_37_code 13 = .ok (.ifCond .ne 109, 3) := by decide +kernel
theorem d_MM_colonOf_122 : decode prog_15_method_37_code 122 = .ok (.iload 5, 2) := by decide +kernel
theorem d_MM_colonOf_124 : decode prog_15_method_37_code 124 = .ok (.ireturn, 1) := by decide +kernel
theorem d_MM_colonOf_16 : decode prog_15_method_37_code 16 = .ok (.iinc 5 1, 3) := by decide +kernel
theorem d_MM_colonOf_19 : decode prog_15_method_37_code 19 = .ok (.aload_n 0, 1) := by decide +kernel
theorem d_MM_colonOf_20 : decode prog_15_method_37_code 20 = .ok (.iload 5, 2) := by decide +kernel
theorem d_MM_colonOf_22 : decode prog_15_method_37_code 22 = .ok (.invokevirtual 302, 3) := by decide +kernel
theorem d_MM_colonOf_25 : decode prog_15_method_37_code 25 = .ok (.istore 7, 2) := by decide +kernel
theorem d_MM_colonOf_27 : decode prog_15_method_37_code 27 = .ok (.iload 7, 2) := by decide +kernel
theorem d_MM_colonOf_29 : decode prog_15_method_37_code 29 = .ok (.bipush 36, 2) := by decide +kernel
theorem d_MM_colonOf_31 : decode prog_15_method_37_code 31 = .ok (.if_icmp .ne 10, 3) := by decide +kernel
theorem d_MM_colonOf_41 : decode prog_15_method_37_code 41 = .ok (.iload 7, 2) := by decide +kernel
theorem d_MM_colonOf_43 : decode prog_15_method_37_code 43 = .ok (.bipush 37, 2) := by decide +kernel
theorem d_MM_colonOf_45 : decode prog_15_method_37_code 45 = .ok (.if_icmp .ne 10, 3) := by decide +kernel
theorem d_MM_colonOf_55 : decode prog_15_method_37_code 55 = .ok (.iload 4, 2) := by decide +kernel
theorem d_MM_colonOf_57 : decode prog_15_method_37_code 57 = .ok (.istore 4, 2) := by decide +kernel
theorem d_MM_colonOf_59 : decode prog_15_method_37_code 59 = .ok (.iload 7, 2) := by decide +kernel
theorem d_MM_colonOf_61 : decode prog_15_method_37_code 61 = .ok (.bipush 33, 2) := by decide +kernel
theorem d_MM_colonOf_63 : decode prog_15_method_37_code 63 = .ok (.if_icmp .ne 16, 3) := by decide +kernel
theorem d_MM_colonOf_79 : decode prog_15_method_37_code 79 = .ok (.iconst 0, 1) := by decide +kernel
theorem d_MM_colonOf_66 : decode prog_15_method_37_code 66 = .ok (.iload 4, 2) := by decide +kernel
theorem d_MM_colonOf_68 : decode prog_15_method_37_code 68 = .ok (.ifCond .ne 11, 3) := by decide +kernel
theorem d_MM_colonOf_71 : decode prog_15_method_37_code 71 = .ok (.iload_n 3, 1) := by decide +kernel
theorem d_MM_colonOf_72 : decode prog_15_method_37_code 72 = .ok (.ifCond .ne 7, 3) := by decide +kernel
theorem d_MM_colonOf_75 : decode prog_15_method_37_code 75 = .ok (.iconst 1, 1) := by decide +kernel
theorem d_MM_colonOf_76 : decode prog_15_method_37_code 76 = .ok (.goto 4, 3) := by decide +kernel
theorem d_MM_colonOf_48 : decode prog_15_method_37_code 48 = .ok (.iload 4, 2) := by decide +kernel
theorem d_MM_colonOf_50 : decode prog_15_method_37_code 50 = .ok (.iconst 1, 1) := by decide +kernel
theorem d_MM_colonOf_51 : decode prog_15_method_37_code 51 = .ok (.isub, 1) := by decide +kernel
theorem d_MM_colonOf_52 : decode prog_15_method_37_code 52 = .ok (.goto 5, 3) := by decide +kernel
theorem d_MM_colonOf_34 : decode prog_15_method_37_code 34 = .ok (.iload 4, 2) := by decide +kernel
theorem d_MM_colonOf_36 : decode prog_15_method_37_code 36 = .ok (.iconst 1, 1) := by decide +kernel
theorem d_MM_colonOf_37 : decode prog_15_method_37_code 37 = .ok (.iadd, 1) := by decide +kernel
theorem d_MM_colonOf_38 : decode prog_15_method_37_code 38 = .ok (.goto 19, 3) := by decide +kernel
theorem d_MM_colonOf_80 : decode prog_15_method_37_code 80 = .ok (.istore 6, 2) := by decide +kernel
theorem d_MM_colonOf_82 : decode prog_15_method_37_code 82 = .ok (.iload 4, 2) := by decide +kernel
theorem d_MM_colonOf_84 : decode prog_15_method_37_code 84 = .ok (.ifCond .le 7, 3) := by decide +kernel
theorem d_MM_colonOf_91 : decode prog_15_method_37_code 91 = .ok (.iload 7, 2) := by decide +kernel
theorem d_MM_colonOf_93 : decode prog_15_method_37_code 93 = .ok (.bipush 32, 2) := by decide +kernel
theorem d_MM_colonOf_95 : decode prog_15_method_37_code 95 = .ok (.if_icmp .ne 9, 3) := by decide +kernel
theorem d_MM_colonOf_104 : decode prog_15_method_37_code 104 = .ok (.iload 7, 2) := by decide +kernel
theorem d_MM_colonOf_106 : decode prog_15_method_37_code 106 = .ok (.bipush 33, 2) := by decide +kernel
theorem d_MM_colonOf_108 : decode prog_15_method_37_code 108 = .ok (.if_icmp .ne 9, 3) := by decide +kernel
theorem d_MM_colonOf_117 : decode prog_15_method_37_code 117 = .ok (.iload_n 3, 1) := by decide +kernel
theorem d_MM_colonOf_118 : decode prog_15_method_37_code 118 = .ok (.istore_n 3, 1) := by decide +kernel
theorem d_MM_colonOf_119 : decode prog_15_method_37_code 119 = .ok (.goto (-108), 3) := by decide +kernel
theorem d_MM_colonOf_111 : decode prog_15_method_37_code 111 = .ok (.iload_n 3, 1) := by decide +kernel
theorem d_MM_colonOf_112 : decode prog_15_method_37_code 112 = .ok (.iconst 1, 1) := by decide +kernel
theorem d_MM_colonOf_113 : decode prog_15_method_37_code 113 = .ok (.isub, 1) := by decide +kernel
theorem d_MM_colonOf_114 : decode prog_15_method_37_code 114 = .ok (.goto 4, 3) := by decide +kernel
theorem d_MM_colonOf_98 : decode prog_15_method_37_code 98 = .ok (.iload_n 3, 1) := by decide +kernel
theorem d_MM_colonOf_99 : decode prog_15_method_37_code 99 = .ok (.iconst 1, 1) := by decide +kernel
theorem d_MM_colonOf_100 : decode prog_15_method_37_code 100 = .ok (.iadd, 1) := by decide +kernel
theorem d_MM_colonOf_101 : decode prog_15_method_37_code 101 = .ok (.goto 17, 3) := by decide +kernel
theorem d_MM_colonOf_87 : decode prog_15_method_37_code 87 = .ok (.iload_n 3, 1) := by decide +kernel
theorem d_MM_colonOf_88 : decode prog_15_method_37_code 88 = .ok (.goto 30, 3) := by decide +kernel
def f_MM_loosest (h0_kinds_all_n : Nat) (l1 : Int32) (l2 : Int32) (h0_kinds_all_c : Nat → Int32) : Nat → Nat → Int32 → Int32 → Int32 → Int32 → Int32 → Option (Int32)
  | 0, _, _, _, _, _, _ => none
  | n + 1, 0, l3, l4, l5, l6, k0 => chk True (f_MM_loosest h0_kinds_all_n l1 l2 h0_kinds_all_c n 1 (-1) 0 0 l1 0)
  | n + 1, 1, l3, l4, l5, l6, k0 => if (l2 : Int32) ≤ l6 then Option.bind (f_MM_word1 h0_kinds_all_n l1 h0_kinds_all_c) (fun o1 => if ¬ (o1 : Int32) = 31 then some (l3) else if (4 : Int32) ≤ l4 then some (l3) else some ((-1))) else Option.bind (f_MM_word1 h0_kinds_all_n l6 h0_kinds_all_c) (fun o2 => if ¬ (o2 : Int32) = 37 then (if ¬ (l5 : Int32) = 0 then f_MM_loosest h0_kinds_all_n l1 l2 h0_kinds_all_c n 2 l3 l4 l5 l6 0 else Option.bind (f_MM_looseness h0_kinds_all_n l6 l1 h0_kinds_all_c) (fun o3 => f_MM_loosest h0_kinds_all_n l1 l2 h0_kinds_all_c n 2 l3 l4 l5 l6 o3)) else if ¬ ((l5 - 1) : Int32) = 0 then f_MM_loosest h0_kinds_all_n l1 l2 h0_kinds_all_c n 2 l3 l4 (l5 - 1) l6 0 else Option.bind (f_MM_looseness h0_kinds_all_n l6 l1 h0_kinds_all_c) (fun o4 => f_MM_loosest h0_kinds_all_n l1 l2 h0_kinds_all_c n 2 l3 l4 (l5 - 1) l6 o4))
  | n + 1, 2, l3, l4, l5, l6, k0 => if (l4 : Int32) < k0 then Option.bind (f_MM_word1 h0_kinds_all_n l6 h0_kinds_all_c) (fun o5 => if ¬ (o5 : Int32) = 36 then f_MM_loosest h0_kinds_all_n l1 l2 h0_kinds_all_c n 1 l6 k0 l5 (l6 + Int32.ofInt 1) 0 else f_MM_loosest h0_kinds_all_n l1 l2 h0_kinds_all_c n 1 l6 k0 (l5 + 1) (l6 + Int32.ofInt 1) 0) else if (k0 : Int32) ≤ 0 then Option.bind (f_MM_word1 h0_kinds_all_n l6 h0_kinds_all_c) (fun o6 => if ¬ (o6 : Int32) = 36 then f_MM_loosest h0_kinds_all_n l1 l2 h0_kinds_all_c n 1 l3 l4 l5 (l6 + Int32.ofInt 1) 0 else f_MM_loosest h0_kinds_all_n l1 l2 h0_kinds_all_c n 1 l3 l4 (l5 + 1) (l6 + Int32.ofInt 1) 0) else if ¬ (k0 : Int32) = l4 then Option.bind (f_MM_word1 h0_kinds_all_n l6 h0_kinds_all_c) (fun o7 => if ¬ (o7 : Int32) = 36 then f_MM_loosest h0_kinds_all_n l1 l2 h0_kinds_all_c n 1 l3 l4 l5 (l6 + Int32.ofInt 1) 0 else f_MM_loosest h0_kinds_all_n l1 l2 h0_kinds_all_c n 1 l3 l4 (l5 + 1) (l6 + Int32.ofInt 1) 0) else if (6 : Int32) ≤ k0 then Option.bind (f_MM_word1 h0_kinds_all_n l6 h0_kinds_all_c) (fun o8 => if ¬ (o8 : Int32) = 36 then f_MM_loosest h0_kinds_all_n l1 l2 h0_kinds_all_c n 1 l3 l4 l5 (l6 + Int32.ofInt 1) 0 else f_MM_loosest h0_kinds_all_n l1 l2 h0_kinds_all_c n 1 l3 l4 (l5 + 1) (l6 + Int32.ofInt 1) 0) else Option.bind (f_MM_word1 h0_kinds_all_n l6 h0_kinds_all_c) (fun o9 => if ¬ (o9 : Int32) = 36 then f_MM_loosest h0_kinds_all_n l1 l2 h0_kinds_all_c n 1 l6 k0 l5 (l6 + Int32.ofInt 1) 0 else f_MM_loosest h0_kinds_all_n l1 l2 h0_kinds_all_c n 1 l6 k0 (l5 + 1) (l6 + Int32.ofInt 1) 0)
  | _ + 1, _ + 3, _, _, _, _, _ => none
theorem e_MM_loosest_0 (h0_kinds_all_n : Nat) (l1 : Int32) (l2 : Int32) (h0_kinds_all_c : Nat → Int32) (n : Nat) (l3 : Int32) (l4 : Int32) (l5 : Int32) (l6 : Int32) (k0 : Int32) : f_MM_loosest h0_kinds_all_n l1 l2 h0_kinds_all_c (n + 1) 0 l3 l4 l5 l6 k0 = chk True (f_MM_loosest h0_kinds_all_n l1 l2 h0_kinds_all_c n 1 (-1) 0 0 l1 0) := by rw [f_MM_loosest]
theorem e_MM_loosest_1 (h0_kinds_all_n : Nat) (l1 : Int32) (l2 : Int32) (h0_kinds_all_c : Nat → Int32) (n : Nat) (l3 : Int32) (l4 : Int32) (l5 : Int32) (l6 : Int32) (k0 : Int32) : f_MM_loosest h0_kinds_all_n l1 l2 h0_kinds_all_c (n + 1) 1 l3 l4 l5 l6 k0 = if (l2 : Int32) ≤ l6 then Option.bind (f_MM_word1 h0_kinds_all_n l1 h0_kinds_all_c) (fun o1 => if ¬ (o1 : Int32) = 31 then some (l3) else if (4 : Int32) ≤ l4 then some (l3) else some ((-1))) else Option.bind (f_MM_word1 h0_kinds_all_n l6 h0_kinds_all_c) (fun o2 => if ¬ (o2 : Int32) = 37 then (if ¬ (l5 : Int32) = 0 then f_MM_loosest h0_kinds_all_n l1 l2 h0_kinds_all_c n 2 l3 l4 l5 l6 0 else Option.bind (f_MM_looseness h0_kinds_all_n l6 l1 h0_kinds_all_c) (fun o3 => f_MM_loosest h0_kinds_all_n l1 l2 h0_kinds_all_c n 2 l3 l4 l5 l6 o3)) else if ¬ ((l5 - 1) : Int32) = 0 then f_MM_loosest h0_kinds_all_n l1 l2 h0_kinds_all_c n 2 l3 l4 (l5 - 1) l6 0 else Option.bind (f_MM_looseness h0_kinds_all_n l6 l1 h0_kinds_all_c) (fun o4 => f_MM_loosest h0_kinds_all_n l1 l2 h0_kinds_all_c n 2 l3 l4 (l5 - 1) l6 o4)) := by rw [f_MM_loosest]
theorem e_MM_loosest_2 (h0_kinds_all_n : Nat) (l1 : Int32) (l2 : Int32) (h0_kinds_all_c : Nat → Int32) (n : Nat) (l3 : Int32) (l4 : Int32) (l5 : Int32) (l6 : Int32) (k0 : Int32) : f_MM_loosest h0_kinds_all_n l1 l2 h0_kinds_all_c (n + 1) 2 l3 l4 l5 l6 k0 = if (l4 : Int32) < k0 then Option.bind (f_MM_word1 h0_kinds_all_n l6 h0_kinds_all_c) (fun o5 => if ¬ (o5 : Int32) = 36 then f_MM_loosest h0_kinds_all_n l1 l2 h0_kinds_all_c n 1 l6 k0 l5 (l6 + Int32.ofInt 1) 0 else f_MM_loosest h0_kinds_all_n l1 l2 h0_kinds_all_c n 1 l6 k0 (l5 + 1) (l6 + Int32.ofInt 1) 0) else if (k0 : Int32) ≤ 0 then Option.bind (f_MM_word1 h0_kinds_all_n l6 h0_kinds_all_c) (fun o6 => if ¬ (o6 : Int32) = 36 then f_MM_loosest h0_kinds_all_n l1 l2 h0_kinds_all_c n 1 l3 l4 l5 (l6 + Int32.ofInt 1) 0 else f_MM_loosest h0_kinds_all_n l1 l2 h0_kinds_all_c n 1 l3 l4 (l5 + 1) (l6 + Int32.ofInt 1) 0) else if ¬ (k0 : Int32) = l4 then Option.bind (f_MM_word1 h0_kinds_all_n l6 h0_kinds_all_c) (fun o7 => if ¬ (o7 : Int32) = 36 then f_MM_loosest h0_kinds_all_n l1 l2 h0_kinds_all_c n 1 l3 l4 l5 (l6 + Int32.ofInt 1) 0 else f_MM_loosest h0_kinds_all_n l1 l2 h0_kinds_all_c n 1 l3 l4 (l5 + 1) (l6 + Int32.ofInt 1) 0) else if (6 : Int32) ≤ k0 then Option.bind (f_MM_word1 h0_kinds_all_n l6 h0_kinds_all_c) (fun o8 => if ¬ (o8 : Int32) = 36 then f_MM_loosest h0_kinds_all_n l1 l2 h0_kinds_all_c n 1 l3 l4 l5 (l6 + Int32.ofInt 1) 0 else f_MM_loosest h0_kinds_all_n l1 l2 h0_kinds_all_c n 1 l3 l4 (l5 + 1) (l6 + Int32.ofInt 1) 0) else Option.bind (f_MM_word1 h0_kinds_all_n l6 h0_kinds_all_c) (fun o9 => if ¬ (o9 : Int32) = 36 then f_MM_loosest h0_kinds_all_n l1 l2 h0_kinds_all_c n 1 l6 k0 l5 (l6 + Int32.ofInt 1) 0 else f_MM_loosest h0_kinds_all_n l1 l2 h0_kinds_all_c n 1 l6 k0 (l5 + 1) (l6 + Int32.ofInt 1) 0) := by rw [f_MM_loosest]
theorem z_MM_loosest (h0_kinds_all_n : Nat) (l1 : Int32) (l2 : Int32) (h0_kinds_all_c : Nat → Int32) (h : Nat) (l3 : Int32) (l4 : Int32) (l5 : Int32) (l6 : Int32) (k0 : Int32) : f_MM_loosest h0_kinds_all_n l1 l2 h0_kinds_all_c 0 h l3 l4 l5 l6 k0 = none := by rw [f_MM_loosest]
set_option maxHeartbeats 4000000 in
set_option maxRecDepth 100000 in
theorem b_MM_loosest_0 {p : Program} {l : Launch} {e : Env} {s : State} {m : MethodId} {args : Array Value} {below : List Frame} {meth : Method} {c : Code} {D : va_G} {tA : Nat → ClassId} {A : Nat → Prop} {h0 h0_kinds h0_kinds_all : Nat} {f0_h0 f0_h0_kinds : List Value} {h0_kinds_all_n : Nat} {l1 : Int32} {l2 : Int32} {h0_kinds_all_c : Nat → Int32} {out : Int32} (hx : p.tables.exec = Jvm.exec) (hb : c.code = prog_15_method_36_code) (hr : meth.sig.returnType = (Option.some Jvm.ClassFile.FieldType.int)) (hml : c.maxLocals = 8) (hh : zH s) (hg : ∀ w ∈ lw_R, w.before args s = true) (hown : s.vm.findClass "ChanceArenaModel" = some m.cls) (hlocks : meth.locks = false) (hK : va_K D vwCl (zT tA) s) (hA : ∀ q, s.heap.size ≤ q → A q) {n : Nat} (ih1 : ∀ (l3 : Int32) (l4 : Int32) (l5 : Int32) (l6 : Int32) (k0 : Int32) (H : Heap) (locs : List Loc) (ls : Array Slot), f_MM_loosest h0_kinds_all_n l1 l2 h0_kinds_all_c n 1 l3 l4 l5 l6 k0 = some out → f0_h0[3]? = some (.ref h0_kinds) → f0_h0_kinds[0]? = some (.ref h0_kinds_all) → va_P D vwCl [(h0, .inr (13, f0_h0)), (h0_kinds, .inr (14, f0_h0_kinds)), (h0_kinds_all, .inl (tA 0, h0_kinds_all_n, .inl h0_kinds_all_c))] H → va_D A [(h0, .inr (13, f0_h0)), (h0_kinds, .inr (14, f0_h0_kinds)), (h0_kinds_all, .inl (tA 0, h0_kinds_all_n, .inl h0_kinds_all_c))] → va_S A s.heap H locs → lv_has ls 8 [(0, .ref h0), (1, .int l1), (2, .int l2), (3, .int l3), (4, .int l4), (5, .int l5), (6, .int l6)] → W p l e { frames := 4, cells := 0, slots := 0, locals := 86 } s m args below meth c H locs 0 0 (MQ below (va_Qi (fun (r9 : Int32) (u9 : Unit) => r9 = out) (zPost D A (fun (u9 : Unit) => [(h0, .inr (13, f0_h0)), (h0_kinds, .inr (14, f0_h0_kinds)), (h0_kinds_all, .inl (tA 0, h0_kinds_all_n, .inl h0_kinds_all_c))])) A) args s 0 0 A) (F0 m 11 ls [])) : ∀ (l3 : Int32) (l4 : Int32) (l5 : Int32) (l6 : Int32) (k0 : Int32) (H : Heap) (locs : List Loc) (ls : Array Slot), f_MM_loosest h0_kinds_all_n l1 l2 h0_kinds_all_c (n + 1) 0 l3 l4 l5 l6 k0 = some out → f0_h0[3]? = some (.ref h0_kinds) → f0_h0_kinds[0]? = some (.ref h0_kinds_all) → va_P D vwCl [(h0, .inr (13, f0_h0)), (h0_kinds, .inr (14, f0_h0_kinds)), (h0_kinds_all, .inl (tA 0, h0_kinds_all_n, .inl h0_kinds_all_c))] H → va_D A [(h0, .inr (13, f0_h0)), (h0_kinds, .inr (14, f0_h0_kinds)), (h0_kinds_all, .inl (tA 0, h0_kinds_all_n, .inl h0_kinds_all_c))] → va_S A s.heap H locs → lv_has ls 8 [(0, .ref h0), (1, .int l1), (2, .int l2)] → W p l e { frames := 4, cells := 0, slots := 0, locals := 86 } s m args below meth c H locs 0 0 (MQ below (va_Qi (fun (r9 : Int32) (u9 : Unit) => r9 = out) (zPost D A (fun (u9 : Unit) => [(h0, .inr (13, f0_h0)), (h0_kinds, .inr (14, f0_h0_kinds)), (h0_kinds_all, .inl (tA 0, h0_kinds_all_n, .inl h0_kinds_all_c))])) A) args s 0 0 A) (F0 m 0 ls []) := by
  intro l3 l4 l5 l6 k0   H locs ls hF q_h0_kinds q_h0_kinds_all hP hD hS hl
  rw [e_MM_loosest_0] at hF
  obtain ⟨_, hF⟩ := chk_some hF
  refine lv_iconst (v := (-1)) hx hb d_MM_loosest_0 (by decide) ?_
  refine lv_istore_n (lv' := [(3, .int (-1)), (0, .ref h0), (1, .int l1), (2, .int l2)]) hx hb d_MM_loosest_1 rfl hl (by decide) rfl (fun ls hl => ?_)
  refine lv_iconst (v := 0) hx hb d_MM_loosest_2 (by decide) ?_
  refine lv_istore (lv' := [(4, .int 0), (3, .int (-1)), (0, .ref h0), (1, .int l1), (2, .int l2)]) hx hb d_MM_loosest_3 hl (by decide) rfl (fun ls hl => ?_)
  refine lv_iconst (v := 0) hx hb d_MM_loosest_5 (by decide) ?_
  refine lv_istore (lv' := [(5, .int 0), (4, .int 0), (3, .int (-1)), (0, .ref h0), (1, .int l1), (2, .int l2)]) hx hb d_MM_loosest_6 hl (by decide) rfl (fun ls hl => ?_)
  refine lv_iload_n hx hb d_MM_loosest_8 rfl (lv_at hl 4 rfl) ?_
  refine lv_istore (lv' := [(6, .int l1), (5, .int 0), (4, .int 0), (3, .int (-1)), (0, .ref h0), (1, .int l1), (2, .int l2)]) hx hb d_MM_loosest_9 hl (by decide) rfl (fun ls hl => ?_)
  exact ih1 (-1) 0 0 l1 0   _ _ _ hF q_h0_kinds q_h0_kinds_all hP hD hS (lv_sub hl [4, 5, 6, 3, 2, 1, 0] rfl)
set_option maxHeartbeats 4000000 in
set_option maxRecDepth 100000 in
theorem b_MM_loosest_1 {p : Program} {l : Launch} {e : Env} {s : State} {m : MethodId} {args : Array Value} {below : List Frame} {meth : Method} {c : Code} {D : va_G} {tA : Nat → ClassId} {A : Nat → Prop} {h0 h0_kinds h0_kinds_all : Nat} {f0_h0 f0_h0_kinds : List Value} {h0_kinds_all_n : Nat} {l1 : Int32} {l2 : Int32} {h0_kinds_all_c : Nat → Int32} {out : Int32} (hx : p.tables.exec = Jvm.exec) (hb : c.code = prog_15_method_36_code) (hr : meth.sig.returnType = (Option.some Jvm.ClassFile.FieldType.int)) (hml : c.maxLocals = 8) (hh : zH s) (hg : ∀ w ∈ lw_R, w.before args s = true) (hown : s.vm.findClass "ChanceArenaModel" = some m.cls) (hlocks : meth.locks = false) (hK : va_K D vwCl (zT tA) s) (hA : ∀ q, s.heap.size ≤ q → A q) {n : Nat} (ih2 : ∀ (l3 : Int32) (l4 : Int32) (l5 : Int32) (l6 : Int32) (k0 : Int32) (H : Heap) (locs : List Loc) (ls : Array Slot), f_MM_loosest h0_kinds_all_n l1 l2 h0_kinds_all_c n 2 l3 l4 l5 l6 k0 = some out → f0_h0[3]? = some (.ref h0_kinds) → f0_h0_kinds[0]? = some (.ref h0_kinds_all) → va_P D vwCl [(h0, .inr (13, f0_h0)), (h0_kinds, .inr (14, f0_h0_kinds)), (h0_kinds_all, .inl (tA 0, h0_kinds_all_n, .inl h0_kinds_all_c))] H → va_D A [(h0, .inr (13, f0_h0)), (h0_kinds, .inr (14, f0_h0_kinds)), (h0_kinds_all, .inl (tA 0, h0_kinds_all_n, .inl h0_kinds_all_c))] → va_S A s.heap H locs → lv_has ls 8 [(0, .ref h0), (1, .int l1), (2, .int l2), (3, .int l3), (4, .int l4), (5, .int l5), (6, .int l6)] → W p l e { frames := 4, cells := 0, slots := 0, locals := 86 } s m args below meth c H locs 0 0 (MQ below (va_Qi (fun (r9 : Int32) (u9 : Unit) => r9 = out) (zPost D A (fun (u9 : Unit) => [(h0, .inr (13, f0_h0)), (h0_kinds, .inr (14, f0_h0_kinds)), (h0_kinds_all, .inl (tA 0, h0_kinds_all_n, .inl h0_kinds_all_c))])) A) args s 0 0 A) (F0 m 55 ls [.int k0])) : ∀ (l3 : Int32) (l4 : Int32) (l5 : Int32) (l6 : Int32) (k0 : Int32) (H : Heap) (locs : List Loc) (ls : Array Slot), f_MM_loosest h0_kinds_all_n l1 l2 h0_kinds_all_c (n + 1) 1 l3 l4 l5 l6 k0 = some out → f0_h0[3]? = some (.ref h0_kinds) → f0_h0_kinds[0]? = some (.ref h0_kinds_all) → va_P D vwCl [(h0, .inr (13, f0_h0)), (h0_kinds, .inr (14, f0_h0_kinds)), (h0_kinds_all, .inl (tA 0, h0_kinds_all_n, .inl h0_kinds_all_c))] H → va_D A [(h0, .inr (13, f0_h0)), (h0_kinds, .inr (14, f0_h0_kinds)), (h0_kinds_all, .inl (tA 0, h0_kinds_all_n, .inl h0_kinds_all_c))] → va_S A s.heap H locs → lv_has ls 8 [(0, .ref h0), (1, .int l1), (2, .int l2), (3, .int l3), (4, .int l4), (5, .int l5), (6, .int l6)] → W p l e { frames := 4, cells := 0, slots := 0, locals := 86 } s m args below meth c H locs 0 0 (MQ below (va_Qi (fun (r9 : Int32) (u9 : Unit) => r9 = out) (zPost D A (fun (u9 : Unit) => [(h0, .inr (13, f0_h0)), (h0_kinds, .inr (14, f0_h0_kinds)), (h0_kinds_all, .inl (tA 0, h0_kinds_all_n, .inl h0_kinds_all_c))])) A) args s 0 0 A) (F0 m 11 ls []) := by
  intro l3 l4 l5 l6 k0   H locs ls hF q_h0_kinds q_h0_kinds_all hP hD hS hl
  rw [e_MM_loosest_1] at hF
  refine lv_iload hx hb d_MM_loosest_11 (lv_at hl 6 rfl) ?_
  refine lv_iload_n hx hb d_MM_loosest_13 rfl (lv_at hl 2 rfl) ?_
  refine lv_icmp_ge (tgt := 118) hx hb d_MM_loosest_14 (by decide) (fun c9 => ?_) (fun c9 => ?_)
  · replace hF := ifp c9 hF
    refine lv_aload_n hx hb d_MM_loosest_118 rfl (lv_at hl 0 rfl) ?_
    refine lv_iload_n hx hb d_MM_loosest_119 rfl (lv_at hl 1 rfl) ?_
    obtain ⟨o1, h1, hF⟩ := bsome hF
    refine zCalli (wc := [(h0, .inr (13, f0_h0)), (h0_kinds, .inr (14, f0_h0_kinds)), (h0_kinds_all, .inl (tA 0, h0_kinds_all_n, .inl h0_kinds_all_c))]) (wr := []) hP hD hS hA [0, 1, 2] [] rfl rfl (by decide) (by decide) (va_runV (As := [.int l1]) (rest := []) ⟨hx, hb, hml, hown, hg⟩ (m_MM_word1 l D tA _ h0 h0_kinds h0_kinds_all f0_h0 f0_h0_kinds h0_kinds_all_n l1 h0_kinds_all_c q_h0_kinds q_h0_kinds_all o1 h1) (zV 1 hg k11_93 k11_95 ks_MM_word1 k1_14 k11_96 rfl rfl (by decide +kernel) ⟨(Nat.le_of_ble_eq_true rfl), (Nat.le_of_ble_eq_true rfl)⟩) (zPreV hh hK hP hD [0, 1, 2] (by decide) rfl (ci := 13) rfl 0 rfl) rfl rfl hl.1 rfl (lv_room (Nat.le_of_ble_eq_true rfl)) d_MM_loosest_120 ⟨(Nat.le_of_ble_eq_true rfl), (Nat.le_of_ble_eq_true rfl)⟩) (fun r1 u1 H1 locs1 e1 hP1 hD1 hS1 => ?_)
    clear hP hD hS
    refine W.cs (cells' := 0) (slots' := 0) rfl rfl ?_
    have x1 := e1
    rw [x1]
    replace hP1 : va_P D vwCl [(h0, .inr (13, f0_h0)), (h0_kinds, .inr (14, f0_h0_kinds)), (h0_kinds_all, .inl (tA 0, h0_kinds_all_n, .inl h0_kinds_all_c))] _ := hP1
    replace hD1 : va_D A [(h0, .inr (13, f0_h0)), (h0_kinds, .inr (14, f0_h0_kinds)), (h0_kinds_all, .inl (tA 0, h0_kinds_all_n, .inl h0_kinds_all_c))] := hD1
    refine lv_bipush (v := 31) hx hb d_MM_loosest_123 (by decide) ?_
    refine lv_icmp_ne (tgt := 138) hx hb d_MM_loosest_125 (by decide) (fun c9 => ?_) (fun c9 => ?_)
    · replace hF := ifp c9 hF
      refine lv_iload_n hx hb d_MM_loosest_138 rfl (lv_at hl 3 rfl) ?_
      replace hF := Option.some.inj hF
      subst hF
      exact zZret (post := (fun (r9 : Int32) (u9 : Unit) => r9 = l3)) (W1 := (fun (u9 : Unit) => [(h0, .inr (13, f0_h0)), (h0_kinds, .inr (14, f0_h0_kinds)), (h0_kinds_all, .inl (tA 0, h0_kinds_all_n, .inl h0_kinds_all_c))])) (v := l3) hx hb hr rfl hlocks hP1 hD1 hS1 () rfl rfl d_MM_loosest_139
    · replace hF := ifn (fun h9 => h9 c9) hF
      refine lv_iload hx hb d_MM_loosest_128 (lv_at hl 4 rfl) ?_
      refine lv_iconst (v := 4) hx hb d_MM_loosest_130 (by decide) ?_
      refine lv_icmp_ge (tgt := 138) hx hb d_MM_loosest_131 (by decide) (fun c9 => ?_) (fun c9 => ?_)
      · replace hF := ifp c9 hF
        refine lv_iload_n hx hb d_MM_loosest_138 rfl (lv_at hl 3 rfl) ?_
        replace hF := Option.some.inj hF
        subst hF
        exact zZret (post := (fun (r9 : Int32) (u9 : Unit) => r9 = l3)) (W1 := (fun (u9 : Unit) => [(h0, .inr (13, f0_h0)), (h0_kinds, .inr (14, f0_h0_kinds)), (h0_kinds_all, .inl (tA 0, h0_kinds_all_n, .inl h0_kinds_all_c))])) (v := l3) hx hb hr rfl hlocks hP1 hD1 hS1 () rfl rfl d_MM_loosest_139
      · replace hF := ifn c9 hF
        refine lv_iconst (v := (-1)) hx hb d_MM_loosest_134 (by decide) ?_
        refine lv_goto (tgt := 139) hx hb d_MM_loosest_135 (by decide) ?_
        replace hF := Option.some.inj hF
        subst hF
        exact zZret (post := (fun (r9 : Int32) (u9 : Unit) => r9 = (-1))) (W1 := (fun (u9 : Unit) => [(h0, .inr (13, f0_h0)), (h0_kinds, .inr (14, f0_h0_kinds)), (h0_kinds_all, .inl (tA 0, h0_kinds_all_n, .inl h0_kinds_all_c))])) (v := (-1)) hx hb hr rfl hlocks hP1 hD1 hS1 () rfl rfl d_MM_loosest_139
  · replace hF := ifn c9 hF
    refine lv_aload_n hx hb d_MM_loosest_17 rfl (lv_at hl 0 rfl) ?_
    refine lv_iload hx hb d_MM_loosest_18 (lv_at hl 6 rfl) ?_
    obtain ⟨o2, h2, hF⟩ := bsome hF
    refine zCalli (wc := [(h0, .inr (13, f0_h0)), (h0_kinds, .inr (14, f0_h0_kinds)), (h0_kinds_all, .inl (tA 0, h0_kinds_all_n, .inl h0_kinds_all_c))]) (wr := []) hP hD hS hA [0, 1, 2] [] rfl rfl (by decide) (by decide) (va_runV (As := [.int l6]) (rest := []) ⟨hx, hb, hml, hown, hg⟩ (m_MM_word1 l D tA _ h0 h0_kinds h0_kinds_all f0_h0 f0_h0_kinds h0_kinds_all_n l6 h0_kinds_all_c q_h0_kinds q_h0_kinds_all o2 h2) (zV 1 hg k11_93 k11_95 ks_MM_word1 k1_14 k11_96 rfl rfl (by decide +kernel) ⟨(Nat.le_of_ble_eq_true rfl), (Nat.le_of_ble_eq_true rfl)⟩) (zPreV hh hK hP hD [0, 1, 2] (by decide) rfl (ci := 13) rfl 0 rfl) rfl rfl hl.1 rfl (lv_room (Nat.le_of_ble_eq_true rfl)) d_MM_loosest_20 ⟨(Nat.le_of_ble_eq_true rfl), (Nat.le_of_ble_eq_true rfl)⟩) (fun r2 u2 H1 locs1 e2 hP1 hD1 hS1 => ?_)
    clear hP hD hS
    refine W.cs (cells' := 0) (slots' := 0) rfl rfl ?_
    have x2 := e2
    rw [x2]
    replace hP1 : va_P D vwCl [(h0, .inr (13, f0_h0)), (h0_kinds, .inr (14, f0_h0_kinds)), (h0_kinds_all, .inl (tA 0, h0_kinds_all_n, .inl h0_kinds_all_c))] _ := hP1
    replace hD1 : va_D A [(h0, .inr (13, f0_h0)), (h0_kinds, .inr (14, f0_h0_kinds)), (h0_kinds_all, .inl (tA 0, h0_kinds_all_n, .inl h0_kinds_all_c))] := hD1
    refine lv_bipush (v := 37) hx hb d_MM_loosest_23 (by decide) ?_
    refine lv_icmp_ne (tgt := 35) hx hb d_MM_loosest_25 (by decide) (fun c9 => ?_) (fun c9 => ?_)
    · replace hF := ifp c9 hF
      refine lv_iload hx hb d_MM_loosest_35 (lv_at hl 5 rfl) ?_
      refine lv_istore (lv' := [(5, .int l5), (0, .ref h0), (1, .int l1), (2, .int l2), (3, .int l3), (4, .int l4), (6, .int l6)]) hx hb d_MM_loosest_37 hl (by decide) rfl (fun ls hl => ?_)
      refine lv_iload hx hb d_MM_loosest_39 (lv_at hl 0 rfl) ?_
      refine lv_if_ne (tgt := 54) hx hb d_MM_loosest_41 (by decide) (fun c9 => ?_) (fun c9 => ?_)
      · replace hF := ifp c9 hF
        refine lv_iconst (v := 0) hx hb d_MM_loosest_54 (by decide) ?_
        exact ih2 l3 l4 l5 l6 0   _ _ _ hF q_h0_kinds q_h0_kinds_all hP1 hD1 hS1 (lv_sub hl [1, 2, 3, 4, 5, 0, 6] rfl)
      · replace hF := ifn (fun h9 => h9 c9) hF
        refine lv_aload_n hx hb d_MM_loosest_44 rfl (lv_at hl 1 rfl) ?_
        refine lv_iload hx hb d_MM_loosest_45 (lv_at hl 6 rfl) ?_
        refine lv_iload_n hx hb d_MM_loosest_47 rfl (lv_at hl 2 rfl) ?_
        obtain ⟨o3, h3, hF⟩ := bsome hF
        refine zCalli (wc := [(h0, .inr (13, f0_h0)), (h0_kinds, .inr (14, f0_h0_kinds)), (h0_kinds_all, .inl (tA 0, h0_kinds_all_n, .inl h0_kinds_all_c))]) (wr := []) hP1 hD1 hS1 hA [0, 1, 2] [] rfl rfl (by decide) (by decide) (va_runV (As := [.int l6, .int l1]) (rest := []) ⟨hx, hb, hml, hown, hg⟩ (m_MM_looseness l D tA _ h0 h0_kinds h0_kinds_all f0_h0 f0_h0_kinds h0_kinds_all_n l6 l1 h0_kinds_all_c q_h0_kinds q_h0_kinds_all o3 h3) (zV 2 hg k11_133 k11_135 ks_MM_looseness k1_14 k11_136 rfl rfl (by decide +kernel) ⟨(Nat.le_of_ble_eq_true rfl), (Nat.le_of_ble_eq_true rfl)⟩) (zPreV hh hK hP1 hD1 [0, 1, 2] (by decide) rfl (ci := 13) rfl 0 rfl) rfl rfl hl.1 rfl (lv_room (Nat.le_of_ble_eq_true rfl)) d_MM_loosest_48 ⟨(Nat.le_of_ble_eq_true rfl), (Nat.le_of_ble_eq_true rfl)⟩) (fun r3 u3 H2 locs2 e3 hP2 hD2 hS2 => ?_)
        clear hP1 hD1 hS1
        refine W.cs (cells' := 0) (slots' := 0) rfl rfl ?_
        have x3 := e3
        rw [x3]
        replace hP2 : va_P D vwCl [(h0, .inr (13, f0_h0)), (h0_kinds, .inr (14, f0_h0_kinds)), (h0_kinds_all, .inl (tA 0, h0_kinds_all_n, .inl h0_kinds_all_c))] _ := hP2
        replace hD2 : va_D A [(h0, .inr (13, f0_h0)), (h0_kinds, .inr (14, f0_h0_kinds)), (h0_kinds_all, .inl (tA 0, h0_kinds_all_n, .inl h0_kinds_all_c))] := hD2
        refine lv_goto (tgt := 55) hx hb d_MM_loosest_51 (by decide) ?_
        exact ih2 l3 l4 l5 l6 o3   _ _ _ hF q_h0_kinds q_h0_kinds_all hP2 hD2 hS2 (lv_sub hl [1, 2, 3, 4, 5, 0, 6] rfl)
    · replace hF := ifn (fun h9 => h9 c9) hF
      refine lv_iload hx hb d_MM_loosest_28 (lv_at hl 5 rfl) ?_
      refine lv_iconst (v := 1) hx hb d_MM_loosest_30 (by decide) ?_
      refine lv_isub hx hb d_MM_loosest_31 ?_
      refine lv_goto (tgt := 37) hx hb d_MM_loosest_32 (by decide) ?_
      refine lv_istore (lv' := [(5, .int (l5 - 1)), (0, .ref h0), (1, .int l1), (2, .int l2), (3, .int l3), (4, .int l4), (6, .int l6)]) hx hb d_MM_loosest_37 hl (by decide) rfl (fun ls hl => ?_)
      refine lv_iload hx hb d_MM_loosest_39 (lv_at hl 0 rfl) ?_
      refine lv_if_ne (tgt := 54) hx hb d_MM_loosest_41 (by decide) (fun c9 => ?_) (fun c9 => ?_)
      · replace hF := ifp c9 hF
        refine lv_iconst (v := 0) hx hb d_MM_loosest_54 (by decide) ?_
        exact ih2 l3 l4 (l5 - 1) l6 0   _ _ _ hF q_h0_kinds q_h0_kinds_all hP1 hD1 hS1 (lv_sub hl [1, 2, 3, 4, 5, 0, 6] rfl)
      · replace hF := ifn (fun h9 => h9 c9) hF
        refine lv_aload_n hx hb d_MM_loosest_44 rfl (lv_at hl 1 rfl) ?_
        refine lv_iload hx hb d_MM_loosest_45 (lv_at hl 6 rfl) ?_
        refine lv_iload_n hx hb d_MM_loosest_47 rfl (lv_at hl 2 rfl) ?_
        obtain ⟨o4, h4, hF⟩ := bsome hF
        refine zCalli (wc := [(h0, .inr (13, f0_h0)), (h0_kinds, .inr (14, f0_h0_kinds)), (h0_kinds_all, .inl (tA 0, h0_kinds_all_n, .inl h0_kinds_all_c))]) (wr := []) hP1 hD1 hS1 hA [0, 1, 2] [] rfl rfl (by decide) (by decide) (va_runV (As := [.int l6, .int l1]) (rest := []) ⟨hx, hb, hml, hown, hg⟩ (m_MM_looseness l D tA _ h0 h0_kinds h0_kinds_all f0_h0 f0_h0_kinds h0_kinds_all_n l6 l1 h0_kinds_all_c q_h0_kinds q_h0_kinds_all o4 h4) (zV 2 hg k11_133 k11_135 ks_MM_looseness k1_14 k11_136 rfl rfl (by decide +kernel) ⟨(Nat.le_of_ble_eq_true rfl), (Nat.le_of_ble_eq_true rfl)⟩) (zPreV hh hK hP1 hD1 [0, 1, 2] (by decide) rfl (ci := 13) rfl 0 rfl) rfl rfl hl.1 rfl (lv_room (Nat.le_of_ble_eq_true rfl)) d_MM_loosest_48 ⟨(Nat.le_of_ble_eq_true rfl), (Nat.le_of_ble_eq_true rfl)⟩) (fun r4 u4 H2 locs2 e4 hP2 hD2 hS2 => ?_)
        clear hP1 hD1 hS1
        refine W.cs (cells' := 0) (slots' := 0) rfl rfl ?_
        have x4 := e4
        rw [x4]
        replace hP2 : va_P D vwCl [(h0, .inr (13, f0_h0)), (h0_kinds, .inr (14, f0_h0_kinds)), (h0_kinds_all, .inl (tA 0, h0_kinds_all_n, .inl h0_kinds_all_c))] _ := hP2
        replace hD2 : va_D A [(h0, .inr (13, f0_h0)), (h0_kinds, .inr (14, f0_h0_kinds)), (h0_kinds_all, .inl (tA 0, h0_kinds_all_n, .inl h0_kinds_all_c))] := hD2
        refine lv_goto (tgt := 55) hx hb d_MM_loosest_51 (by decide) ?_
        exact ih2 l3 l4 (l5 - 1) l6 o4   _ _ _ hF q_h0_kinds q_h0_kinds_all hP2 hD2 hS2 (lv_sub hl [1, 2, 3, 4, 5, 0, 6] rfl)
set_option maxHeartbeats 4000000 in
set_option maxRecDepth 100000 in
theorem b_MM_loosest_2 {p : Program} {l : Launch} {e : Env} {s : State} {m : MethodId} {args : Array Value} {below : List Frame} {meth : Method} {c : Code} {D : va_G} {tA : Nat → ClassId} {A : Nat → Prop} {h0 h0_kinds h0_kinds_all : Nat} {f0_h0 f0_h0_kinds : List Value} {h0_kinds_all_n : Nat} {l1 : Int32} {l2 : Int32} {h0_kinds_all_c : Nat → Int32} {out : Int32} (hx : p.tables.exec = Jvm.exec) (hb : c.code = prog_15_method_36_code) (hr : meth.sig.returnType = (Option.some Jvm.ClassFile.FieldType.int)) (hml : c.maxLocals = 8) (hh : zH s) (hg : ∀ w ∈ lw_R, w.before args s = true) (hown : s.vm.findClass "ChanceArenaModel" = some m.cls) (hlocks : meth.locks = false) (hK : va_K D vwCl (zT tA) s) (hA : ∀ q, s.heap.size ≤ q → A q) {n : Nat} (ih1 : ∀ (l3 : Int32) (l4 : Int32) (l5 : Int32) (l6 : Int32) (k0 : Int32) (H : Heap) (locs : List Loc) (ls : Array Slot), f_MM_loosest h0_kinds_all_n l1 l2 h0_kinds_all_c n 1 l3 l4 l5 l6 k0 = some out → f0_h0[3]? = some (.ref h0_kinds) → f0_h0_kinds[0]? = some (.ref h0_kinds_all) → va_P D vwCl [(h0, .inr (13, f0_h0)), (h0_kinds, .inr (14, f0_h0_kinds)), (h0_kinds_all, .inl (tA 0, h0_kinds_all_n, .inl h0_kinds_all_c))] H → va_D A [(h0, .inr (13, f0_h0)), (h0_kinds, .inr (14, f0_h0_kinds)), (h0_kinds_all, .inl (tA 0, h0_kinds_all_n, .inl h0_kinds_all_c))] → va_S A s.heap H locs → lv_has ls 8 [(0, .ref h0), (1, .int l1), (2, .int l2), (3, .int l3), (4, .int l4), (5, .int l5), (6, .int l6)] → W p l e { frames := 4, cells := 0, slots := 0, locals := 86 } s m args below meth c H locs 0 0 (MQ below (va_Qi (fun (r9 : Int32) (u9 : Unit) => r9 = out) (zPost D A (fun (u9 : Unit) => [(h0, .inr (13, f0_h0)), (h0_kinds, .inr (14, f0_h0_kinds)), (h0_kinds_all, .inl (tA 0, h0_kinds_all_n, .inl h0_kinds_all_c))])) A) args s 0 0 A) (F0 m 11 ls [])) : ∀ (l3 : Int32) (l4 : Int32) (l5 : Int32) (l6 : Int32) (k0 : Int32) (H : Heap) (locs : List Loc) (ls : Array Slot), f_MM_loosest h0_kinds_all_n l1 l2 h0_kinds_all_c (n + 1) 2 l3 l4 l5 l6 k0 = some out → f0_h0[3]? = some (.ref h0_kinds) → f0_h0_kinds[0]? = some (.ref h0_kinds_all) → va_P D vwCl [(h0, .inr (13, f0_h0)), (h0_kinds, .inr (14, f0_h0_kinds)), (h0_kinds_all, .inl (tA 0, h0_kinds_all_n, .inl h0_kinds_all_c))] H → va_D A [(h0, .inr (13, f0_h0)), (h0_kinds, .inr (14, f0_h0_kinds)), (h0_kinds_all, .inl (tA 0, h0_kinds_all_n, .inl h0_kinds_all_c))] → va_S A s.heap H locs → lv_has ls 8 [(0, .ref h0), (1, .int l1), (2, .int l2), (3, .int l3), (4, .int l4), (5, .int l5), (6, .int l6)] → W p l e { frames := 4, cells := 0, slots := 0, locals := 86 } s m args below meth c H locs 0 0 (MQ below (va_Qi (fun (r9 : Int32) (u9 : Unit) => r9 = out) (zPost D A (fun (u9 : Unit) => [(h0, .inr (13, f0_h0)), (h0_kinds, .inr (14, f0_h0_kinds)), (h0_kinds_all, .inl (tA 0, h0_kinds_all_n, .inl h0_kinds_all_c))])) A) args s 0 0 A) (F0 m 55 ls [.int k0]) := by
  intro l3 l4 l5 l6 k0   H locs ls hF q_h0_kinds q_h0_kinds_all hP hD hS hl
  rw [e_MM_loosest_2] at hF
  refine lv_istore (lv' := [(7, .int k0), (0, .ref h0), (1, .int l1), (2, .int l2), (3, .int l3), (4, .int l4), (5, .int l5), (6, .int l6)]) hx hb d_MM_loosest_55 hl (by decide) rfl (fun ls hl => ?_)
  refine lv_iload hx hb d_MM_loosest_57 (lv_at hl 0 rfl) ?_
  refine lv_iload hx hb d_MM_loosest_59 (lv_at hl 5 rfl) ?_
  refine lv_icmp_gt (tgt := 83) hx hb d_MM_loosest_61 (by decide) (fun c9 => ?_) (fun c9 => ?_)
  · replace hF := ifp c9 hF
    refine lv_iload hx hb d_MM_loosest_83 (lv_at hl 0 rfl) ?_
    refine lv_istore (lv' := [(4, .int k0), (7, .int k0), (0, .ref h0), (1, .int l1), (2, .int l2), (3, .int l3), (5, .int l5), (6, .int l6)]) hx hb d_MM_loosest_85 hl (by decide) rfl (fun ls hl => ?_)
    refine lv_iload hx hb d_MM_loosest_87 (lv_at hl 7 rfl) ?_
    refine lv_istore_n (lv' := [(3, .int l6), (4, .int k0), (7, .int k0), (0, .ref h0), (1, .int l1), (2, .int l2), (5, .int l5), (6, .int l6)]) hx hb d_MM_loosest_89 rfl hl (by decide) rfl (fun ls hl => ?_)
    refine lv_aload_n hx hb d_MM_loosest_90 rfl (lv_at hl 3 rfl) ?_
    refine lv_iload hx hb d_MM_loosest_91 (lv_at hl 7 rfl) ?_
    obtain ⟨o5, h5, hF⟩ := bsome hF
    refine zCalli (wc := [(h0, .inr (13, f0_h0)), (h0_kinds, .inr (14, f0_h0_kinds)), (h0_kinds_all, .inl (tA 0, h0_kinds_all_n, .inl h0_kinds_all_c))]) (wr := []) hP hD hS hA [0, 1, 2] [] rfl rfl (by decide) (by decide) (va_runV (As := [.int l6]) (rest := []) ⟨hx, hb, hml, hown, hg⟩ (m_MM_word1 l D tA _ h0 h0_kinds h0_kinds_all f0_h0 f0_h0_kinds h0_kinds_all_n l6 h0_kinds_all_c q_h0_kinds q_h0_kinds_all o5 h5) (zV 1 hg k11_93 k11_95 ks_MM_word1 k1_14 k11_96 rfl rfl (by decide +kernel) ⟨(Nat.le_of_ble_eq_true rfl), (Nat.le_of_ble_eq_true rfl)⟩) (zPreV hh hK hP hD [0, 1, 2] (by decide) rfl (ci := 13) rfl 0 rfl) rfl rfl hl.1 rfl (lv_room (Nat.le_of_ble_eq_true rfl)) d_MM_loosest_93 ⟨(Nat.le_of_ble_eq_true rfl), (Nat.le_of_ble_eq_true rfl)⟩) (fun r5 u5 H1 locs1 e5 hP1 hD1 hS1 => ?_)
    clear hP hD hS
    refine W.cs (cells' := 0) (slots' := 0) rfl rfl ?_
    have x5 := e5
    rw [x5]
    replace hP1 : va_P D vwCl [(h0, .inr (13, f0_h0)), (h0_kinds, .inr (14, f0_h0_kinds)), (h0_kinds_all, .inl (tA 0, h0_kinds_all_n, .inl h0_kinds_all_c))] _ := hP1
    replace hD1 : va_D A [(h0, .inr (13, f0_h0)), (h0_kinds, .inr (14, f0_h0_kinds)), (h0_kinds_all, .inl (tA 0, h0_kinds_all_n, .inl h0_kinds_all_c))] := hD1
    refine lv_bipush (v := 36) hx hb d_MM_loosest_96 (by decide) ?_
    refine lv_icmp_ne (tgt := 108) hx hb d_MM_loosest_98 (by decide) (fun c9 => ?_) (fun c9 => ?_)
    · replace hF := ifp c9 hF
      refine lv_iload hx hb d_MM_loosest_108 (lv_at hl 6 rfl) ?_
      refine lv_istore (lv' := [(5, .int l5), (3, .int l6), (4, .int k0), (7, .int k0), (0, .ref h0), (1, .int l1), (2, .int l2), (6, .int l6)]) hx hb d_MM_loosest_110 hl (by decide) rfl (fun ls hl => ?_)
      refine lv_iinc (v := (l6 + Int32.ofInt 1)) (lv' := [(6, .int (l6 + Int32.ofInt 1)), (5, .int l5), (3, .int l6), (4, .int k0), (7, .int k0), (0, .ref h0), (1, .int l1), (2, .int l2)]) hx hb d_MM_loosest_112 hl (k := 7) rfl rfl (by decide) rfl (fun ls hl => ?_)
      refine lv_goto (tgt := 11) hx hb d_MM_loosest_115 (by decide) ?_
      exact ih1 l6 k0 l5 (l6 + Int32.ofInt 1) 0   _ _ _ hF q_h0_kinds q_h0_kinds_all hP1 hD1 hS1 (lv_sub hl [5, 6, 7, 2, 3, 1, 0] rfl)
    · replace hF := ifn (fun h9 => h9 c9) hF
      refine lv_iload hx hb d_MM_loosest_101 (lv_at hl 6 rfl) ?_
      refine lv_iconst (v := 1) hx hb d_MM_loosest_103 (by decide) ?_
      refine lv_iadd hx hb d_MM_loosest_104 ?_
      refine lv_goto (tgt := 110) hx hb d_MM_loosest_105 (by decide) ?_
      refine lv_istore (lv' := [(5, .int (l5 + 1)), (3, .int l6), (4, .int k0), (7, .int k0), (0, .ref h0), (1, .int l1), (2, .int l2), (6, .int l6)]) hx hb d_MM_loosest_110 hl (by decide) rfl (fun ls hl => ?_)
      refine lv_iinc (v := (l6 + Int32.ofInt 1)) (lv' := [(6, .int (l6 + Int32.ofInt 1)), (5, .int (l5 + 1)), (3, .int l6), (4, .int k0), (7, .int k0), (0, .ref h0), (1, .int l1), (2, .int l2)]) hx hb d_MM_loosest_112 hl (k := 7) rfl rfl (by decide) rfl (fun ls hl => ?_)
      refine lv_goto (tgt := 11) hx hb d_MM_loosest_115 (by decide) ?_
      exact ih1 l6 k0 (l5 + 1) (l6 + Int32.ofInt 1) 0   _ _ _ hF q_h0_kinds q_h0_kinds_all hP1 hD1 hS1 (lv_sub hl [5, 6, 7, 2, 3, 1, 0] rfl)
  · replace hF := ifn c9 hF
    refine lv_iload hx hb d_MM_loosest_64 (lv_at hl 0 rfl) ?_
    refine lv_if_le (tgt := 90) hx hb d_MM_loosest_66 (by decide) (fun c9 => ?_) (fun c9 => ?_)
    · replace hF := ifp c9 hF
      refine lv_aload_n hx hb d_MM_loosest_90 rfl (lv_at hl 1 rfl) ?_
      refine lv_iload hx hb d_MM_loosest_91 (lv_at hl 7 rfl) ?_
      obtain ⟨o6, h6, hF⟩ := bsome hF
      refine zCalli (wc := [(h0, .inr (13, f0_h0)), (h0_kinds, .inr (14, f0_h0_kinds)), (h0_kinds_all, .inl (tA 0, h0_kinds_all_n, .inl h0_kinds_all_c))]) (wr := []) hP hD hS hA [0, 1, 2] [] rfl rfl (by decide) (by decide) (va_runV (As := [.int l6]) (rest := []) ⟨hx, hb, hml, hown, hg⟩ (m_MM_word1 l D tA _ h0 h0_kinds h0_kinds_all f0_h0 f0_h0_kinds h0_kinds_all_n l6 h0_kinds_all_c q_h0_kinds q_h0_kinds_all o6 h6) (zV 1 hg k11_93 k11_95 ks_MM_word1 k1_14 k11_96 rfl rfl (by decide +kernel) ⟨(Nat.le_of_ble_eq_true rfl), (Nat.le_of_ble_eq_true rfl)⟩) (zPreV hh hK hP hD [0, 1, 2] (by decide) rfl (ci := 13) rfl 0 rfl) rfl rfl hl.1 rfl (lv_room (Nat.le_of_ble_eq_true rfl)) d_MM_loosest_93 ⟨(Nat.le_of_ble_eq_true rfl), (Nat.le_of_ble_eq_true rfl)⟩) (fun r6 u6 H1 locs1 e6 hP1 hD1 hS1 => ?_)
      clear hP hD hS
      refine W.cs (cells' := 0) (slots' := 0) rfl rfl ?_
      have x6 := e6
      rw [x6]
      replace hP1 : va_P D vwCl [(h0, .inr (13, f0_h0)), (h0_kinds, .inr (14, f0_h0_kinds)), (h0_kinds_all, .inl (tA 0, h0_kinds_all_n, .inl h0_kinds_all_c))] _ := hP1
      replace hD1 : va_D A [(h0, .inr (13, f0_h0)), (h0_kinds, .inr (14, f0_h0_kinds)), (h0_kinds_all, .inl (tA 0, h0_kinds_all_n, .inl h0_kinds_all_c))] := hD1
      refine lv_bipush (v := 36) hx hb d_MM_loosest_96 (by decide) ?_
      refine lv_icmp_ne (tgt := 108) hx hb d_MM_loosest_98 (by decide) (fun c9 => ?_) (fun c9 => ?_)
      · replace hF := ifp c9 hF
        refine lv_iload hx hb d_MM_loosest_108 (lv_at hl 6 rfl) ?_
        refine lv_istore (lv' := [(5, .int l5), (7, .int k0), (0, .ref h0), (1, .int l1), (2, .int l2), (3, .int l3), (4, .int l4), (6, .int l6)]) hx hb d_MM_loosest_110 hl (by decide) rfl (fun ls hl => ?_)
        refine lv_iinc (v := (l6 + Int32.ofInt 1)) (lv' := [(6, .int (l6 + Int32.ofInt 1)), (5, .int l5), (7, .int k0), (0, .ref h0), (1, .int l1), (2, .int l2), (3, .int l3), (4, .int l4)]) hx hb d_MM_loosest_112 hl (k := 7) rfl rfl (by decide) rfl (fun ls hl => ?_)
        refine lv_goto (tgt := 11) hx hb d_MM_loosest_115 (by decide) ?_
        exact ih1 l3 l4 l5 (l6 + Int32.ofInt 1) 0   _ _ _ hF q_h0_kinds q_h0_kinds_all hP1 hD1 hS1 (lv_sub hl [3, 4, 5, 6, 7, 1, 0] rfl)
      · replace hF := ifn (fun h9 => h9 c9) hF
        refine lv_iload hx hb d_MM_loosest_101 (lv_at hl 6 rfl) ?_
        refine lv_iconst (v := 1) hx hb d_MM_loosest_103 (by decide) ?_
        refine lv_iadd hx hb d_MM_loosest_104 ?_
        refine lv_goto (tgt := 110) hx hb d_MM_loosest_105 (by decide) ?_
        refine lv_istore (lv' := [(5, .int (l5 + 1)), (7, .int k0), (0, .ref h0), (1, .int l1), (2, .int l2), (3, .int l3), (4, .int l4), (6, .int l6)]) hx hb d_MM_loosest_110 hl (by decide) rfl (fun ls hl => ?_)
        refine lv_iinc (v := (l6 + Int32.ofInt 1)) (lv' := [(6, .int (l6 + Int32.ofInt 1)), (5, .int (l5 + 1)), (7, .int k0), (0, .ref h0), (1, .int l1), (2, .int l2), (3, .int l3), (4, .int l4)]) hx hb d_MM_loosest_112 hl (k := 7) rfl rfl (by decide) rfl (fun ls hl => ?_)
        refine lv_goto (tgt := 11) hx hb d_MM_loosest_115 (by decide) ?_
        exact ih1 l3 l4 (l5 + 1) (l6 + Int32.ofInt 1) 0   _ _ _ hF q_h0_kinds q_h0_kinds_all hP1 hD1 hS1 (lv_sub hl [3, 4, 5, 6, 7, 1, 0] rfl)
    · replace hF := ifn c9 hF
      refine lv_iload hx hb d_MM_loosest_69 (lv_at hl 0 rfl) ?_
      refine lv_iload hx hb d_MM_loosest_71 (lv_at hl 5 rfl) ?_
      refine lv_icmp_ne (tgt := 90) hx hb d_MM_loosest_73 (by decide) (fun c9 => ?_) (fun c9 => ?_)
      · replace hF := ifp c9 hF
        refine lv_aload_n hx hb d_MM_loosest_90 rfl (lv_at hl 1 rfl) ?_
        refine lv_iload hx hb d_MM_loosest_91 (lv_at hl 7 rfl) ?_
        obtain ⟨o7, h7, hF⟩ := bsome hF
        refine zCalli (wc := [(h0, .inr (13, f0_h0)), (h0_kinds, .inr (14, f0_h0_kinds)), (h0_kinds_all, .inl (tA 0, h0_kinds_all_n, .inl h0_kinds_all_c))]) (wr := []) hP hD hS hA [0, 1, 2] [] rfl rfl (by decide) (by decide) (va_runV (As := [.int l6]) (rest := []) ⟨hx, hb, hml, hown, hg⟩ (m_MM_word1 l D tA _ h0 h0_kinds h0_kinds_all f0_h0 f0_h0_kinds h0_kinds_all_n l6 h0_kinds_all_c q_h0_kinds q_h0_kinds_all o7 h7) (zV 1 hg k11_93 k11_95 ks_MM_word1 k1_14 k11_96 rfl rfl (by decide +kernel) ⟨(Nat.le_of_ble_eq_true rfl), (Nat.le_of_ble_eq_true rfl)⟩) (zPreV hh hK hP hD [0, 1, 2] (by decide) rfl (ci := 13) rfl 0 rfl) rfl rfl hl.1 rfl (lv_room (Nat.le_of_ble_eq_true rfl)) d_MM_loosest_93 ⟨(Nat.le_of_ble_eq_true rfl), (Nat.le_of_ble_eq_true rfl)⟩) (fun r7 u7 H1 locs1 e7 hP1 hD1 hS1 => ?_)
        clear hP hD hS
        refine W.cs (cells' := 0) (slots' := 0) rfl rfl ?_
        have x7 := e7
        rw [x7]
        replace hP1 : va_P D vwCl [(h0, .inr (13, f0_h0)), (h0_kinds, .inr (14, f0_h0_kinds)), (h0_kinds_all, .inl (tA 0, h0_kinds_all_n, .inl h0_kinds_all_c))] _ := hP1
        replace hD1 : va_D A [(h0, .inr (13, f0_h0)), (h0_kinds, .inr (14, f0_h0_kinds)), (h0_kinds_all, .inl (tA 0, h0_kinds_all_n, .inl h0_kinds_all_c))] := hD1
        refine lv_bipush (v := 36) hx hb d_MM_loosest_96 (by decide) ?_
        refine lv_icmp_ne (tgt := 108) hx hb d_MM_loosest_98 (by decide) (fun c9 => ?_) (fun c9 => ?_)
        · replace hF := ifp c9 hF
          refine lv_iload hx hb d_MM_loosest_108 (lv_at hl 6 rfl) ?_
          refine lv_istore (lv' := [(5, .int l5), (7, .int k0), (0, .ref h0), (1, .int l1), (2, .int l2), (3, .int l3), (4, .int l4), (6, .int l6)]) hx hb d_MM_loosest_110 hl (by decide) rfl (fun ls hl => ?_)
          refine lv_iinc (v := (l6 + Int32.ofInt 1)) (lv' := [(6, .int (l6 + Int32.ofInt 1)), (5, .int l5), (7, .int k0), (0, .ref h0), (1, .int l1), (2, .int l2), (3, .int l3), (4, .int l4)]) hx hb d_MM_loosest_112 hl (k := 7) rfl rfl (by decide) rfl (fun ls hl => ?_)
          refine lv_goto (tgt := 11) hx hb d_MM_loosest_115 (by decide) ?_
          exact ih1 l3 l4 l5 (l6 + Int32.ofInt 1) 0   _ _ _ hF q_h0_kinds q_h0_kinds_all hP1 hD1 hS1 (lv_sub hl [3, 4, 5, 6, 7, 1, 0] rfl)
        · replace hF := ifn (fun h9 => h9 c9) hF
          refine lv_iload hx hb d_MM_loosest_101 (lv_at hl 6 rfl) ?_
          refine lv_iconst (v := 1) hx hb d_MM_loosest_103 (by decide) ?_
          refine lv_iadd hx hb d_MM_loosest_104 ?_
          refine lv_goto (tgt := 110) hx hb d_MM_loosest_105 (by decide) ?_
          refine lv_istore (lv' := [(5, .int (l5 + 1)), (7, .int k0), (0, .ref h0), (1, .int l1), (2, .int l2), (3, .int l3), (4, .int l4), (6, .int l6)]) hx hb d_MM_loosest_110 hl (by decide) rfl (fun ls hl => ?_)
          refine lv_iinc (v := (l6 + Int32.ofInt 1)) (lv' := [(6, .int (l6 + Int32.ofInt 1)), (5, .int (l5 + 1)), (7, .int k0), (0, .ref h0), (1, .int l1), (2, .int l2), (3, .int l3), (4, .int l4)]) hx hb d_MM_loosest_112 hl (k := 7) rfl rfl (by decide) rfl (fun ls hl => ?_)
          refine lv_goto (tgt := 11) hx hb d_MM_loosest_115 (by decide) ?_
          exact ih1 l3 l4 (l5 + 1) (l6 + Int32.ofInt 1) 0   _ _ _ hF q_h0_kinds q_h0_kinds_all hP1 hD1 hS1 (lv_sub hl [3, 4, 5, 6, 7, 1, 0] rfl)
      · replace hF := ifn (fun h9 => h9 c9) hF
        refine lv_iload hx hb d_MM_loosest_76 (lv_at hl 0 rfl) ?_
        refine lv_bipush (v := 6) hx hb d_MM_loosest_78 (by decide) ?_
        refine lv_icmp_ge (tgt := 90) hx hb d_MM_loosest_80 (by decide) (fun c9 => ?_) (fun c9 => ?_)
        · replace hF := ifp c9 hF
          refine lv_aload_n hx hb d_MM_loosest_90 rfl (lv_at hl 1 rfl) ?_
          refine lv_iload hx hb d_MM_loosest_91 (lv_at hl 7 rfl) ?_
          obtain ⟨o8, h8, hF⟩ := bsome hF
          refine zCalli (wc := [(h0, .inr (13, f0_h0)), (h0_kinds, .inr (14, f0_h0_kinds)), (h0_kinds_all, .inl (tA 0, h0_kinds_all_n, .inl h0_kinds_all_c))]) (wr := []) hP hD hS hA [0, 1, 2] [] rfl rfl (by decide) (by decide) (va_runV (As := [.int l6]) (rest := []) ⟨hx, hb, hml, hown, hg⟩ (m_MM_word1 l D tA _ h0 h0_kinds h0_kinds_all f0_h0 f0_h0_kinds h0_kinds_all_n l6 h0_kinds_all_c q_h0_kinds q_h0_kinds_all o8 h8) (zV 1 hg k11_93 k11_95 ks_MM_word1 k1_14 k11_96 rfl rfl (by decide +kernel) ⟨(Nat.le_of_ble_eq_true rfl), (Nat.le_of_ble_eq_true rfl)⟩) (zPreV hh hK hP hD [0, 1, 2] (by decide) rfl (ci := 13) rfl 0 rfl) rfl rfl hl.1 rfl (lv_room (Nat.le_of_ble_eq_true rfl)) d_MM_loosest_93 ⟨(Nat.le_of_ble_eq_true rfl), (Nat.le_of_ble_eq_true rfl)⟩) (fun r8 u8 H1 locs1 e8 hP1 hD1 hS1 => ?_)
          clear hP hD hS
          refine W.cs (cells' := 0) (slots' := 0) rfl rfl ?_
          have x8 := e8
          rw [x8]
          replace hP1 : va_P D vwCl [(h0, .inr (13, f0_h0)), (h0_kinds, .inr (14, f0_h0_kinds)), (h0_kinds_all, .inl (tA 0, h0_kinds_all_n, .inl h0_kinds_all_c))] _ := hP1
          replace hD1 : va_D A [(h0, .inr (13, f0_h0)), (h0_kinds, .inr (14, f0_h0_kinds)), (h0_kinds_all, .inl (tA 0, h0_kinds_all_n, .inl h0_kinds_all_c))] := hD1
          refine lv_bipush (v := 36) hx hb d_MM_loosest_96 (by decide) ?_
          refine lv_icmp_ne (tgt := 108) hx hb d_MM_loosest_98 (by decide) (fun c9 => ?_) (fun c9 => ?_)
          · replace hF := ifp c9 hF
            refine lv_iload hx hb d_MM_loosest_108 (lv_at hl 6 rfl) ?_
            refine lv_istore (lv' := [(5, .int l5), (7, .int k0), (0, .ref h0), (1, .int l1), (2, .int l2), (3, .int l3), (4, .int l4), (6, .int l6)]) hx hb d_MM_loosest_110 hl (by decide) rfl (fun ls hl => ?_)
            refine lv_iinc (v := (l6 + Int32.ofInt 1)) (lv' := [(6, .int (l6 + Int32.ofInt 1)), (5, .int l5), (7, .int k0), (0, .ref h0), (1, .int l1), (2, .int l2), (3, .int l3), (4, .int l4)]) hx hb d_MM_loosest_112 hl (k := 7) rfl rfl (by decide) rfl (fun ls hl => ?_)
            refine lv_goto (tgt := 11) hx hb d_MM_loosest_115 (by decide) ?_
            exact ih1 l3 l4 l5 (l6 + Int32.ofInt 1) 0   _ _ _ hF q_h0_kinds q_h0_kinds_all hP1 hD1 hS1 (lv_sub hl [3, 4, 5, 6, 7, 1, 0] rfl)
          · replace hF := ifn (fun h9 => h9 c9) hF
            refine lv_iload hx hb d_MM_loosest_101 (lv_at hl 6 rfl) ?_
            refine lv_iconst (v := 1) hx hb d_MM_loosest_103 (by decide) ?_
            refine lv_iadd hx hb d_MM_loosest_104 ?_
            refine lv_goto (tgt := 110) hx hb d_MM_loosest_105 (by decide) ?_
            refine lv_istore (lv' := [(5, .int (l5 + 1)), (7, .int k0), (0, .ref h0), (1, .int l1), (2, .int l2), (3, .int l3), (4, .int l4), (6, .int l6)]) hx hb d_MM_loosest_110 hl (by decide) rfl (fun ls hl => ?_)
            refine lv_iinc (v := (l6 + Int32.ofInt 1)) (lv' := [(6, .int (l6 + Int32.ofInt 1)), (5, .int (l5 + 1)), (7, .int k0), (0, .ref h0), (1, .int l1), (2, .int l2), (3, .int l3), (4, .int l4)]) hx hb d_MM_loosest_112 hl (k := 7) rfl rfl (by decide) rfl (fun ls hl => ?_)
            refine lv_goto (tgt := 11) hx hb d_MM_loosest_115 (by decide) ?_
            exact ih1 l3 l4 (l5 + 1) (l6 + Int32.ofInt 1) 0   _ _ _ hF q_h0_kinds q_h0_kinds_all hP1 hD1 hS1 (lv_sub hl [3, 4, 5, 6, 7, 1, 0] rfl)
        · replace hF := ifn c9 hF
          refine lv_iload hx hb d_MM_loosest_83 (lv_at hl 0 rfl) ?_
          refine lv_istore (lv' := [(4, .int k0), (7, .int k0), (0, .ref h0), (1, .int l1), (2, .int l2), (3, .int l3), (5, .int l5), (6, .int l6)]) hx hb d_MM_loosest_85 hl (by decide) rfl (fun ls hl => ?_)
          refine lv_iload hx hb d_MM_loosest_87 (lv_at hl 7 rfl) ?_
          refine lv_istore_n (lv' := [(3, .int l6), (4, .int k0), (7, .int k0), (0, .ref h0), (1, .int l1), (2, .int l2), (5, .int l5), (6, .int l6)]) hx hb d_MM_loosest_89 rfl hl (by decide) rfl (fun ls hl => ?_)
          refine lv_aload_n hx hb d_MM_loosest_90 rfl (lv_at hl 3 rfl) ?_
          refine lv_iload hx hb d_MM_loosest_91 (lv_at hl 7 rfl) ?_
          obtain ⟨o9, h9, hF⟩ := bsome hF
          refine zCalli (wc := [(h0, .inr (13, f0_h0)), (h0_kinds, .inr (14, f0_h0_kinds)), (h0_kinds_all, .inl (tA 0, h0_kinds_all_n, .inl h0_kinds_all_c))]) (wr := []) hP hD hS hA [0, 1, 2] [] rfl rfl (by decide) (by decide) (va_runV (As := [.int l6]) (rest := []) ⟨hx, hb, hml, hown, hg⟩ (m_MM_word1 l D tA _ h0 h0_kinds h0_kinds_all f0_h0 f0_h0_kinds h0_kinds_all_n l6 h0_kinds_all_c q_h0_kinds q_h0_kinds_all o9 h9) (zV 1 hg k11_93 k11_95 ks_MM_word1 k1_14 k11_96 rfl rfl (by decide +kernel) ⟨(Nat.le_of_ble_eq_true rfl), (Nat.le_of_ble_eq_true rfl)⟩) (zPreV hh hK hP hD [0, 1, 2] (by decide) rfl (ci := 13) rfl 0 rfl) rfl rfl hl.1 rfl (lv_room (Nat.le_of_ble_eq_true rfl)) d_MM_loosest_93 ⟨(Nat.le_of_ble_eq_true rfl), (Nat.le_of_ble_eq_true rfl)⟩) (fun r9 u9 H1 locs1 e9 hP1 hD1 hS1 => ?_)
          clear hP hD hS
          refine W.cs (cells' := 0) (slots' := 0) rfl rfl ?_
          have x9 := e9
          rw [x9]
          replace hP1 : va_P D vwCl [(h0, .inr (13, f0_h0)), (h0_kinds, .inr (14, f0_h0_kinds)), (h0_kinds_all, .inl (tA 0, h0_kinds_all_n, .inl h0_kinds_all_c))] _ := hP1
          replace hD1 : va_D A [(h0, .inr (13, f0_h0)), (h0_kinds, .inr (14, f0_h0_kinds)), (h0_kinds_all, .inl (tA 0, h0_kinds_all_n, .inl h0_kinds_all_c))] := hD1
          refine lv_bipush (v := 36) hx hb d_MM_loosest_96 (by decide) ?_
          refine lv_icmp_ne (tgt := 108) hx hb d_MM_loosest_98 (by decide) (fun c9 => ?_) (fun c9 => ?_)
          · replace hF := ifp c9 hF
            refine lv_iload hx hb d_MM_loosest_108 (lv_at hl 6 rfl) ?_
            refine lv_istore (lv' := [(5, .int l5), (3, .int l6), (4, .int k0), (7, .int k0), (0, .ref h0), (1, .int l1), (2, .int l2), (6, .int l6)]) hx hb d_MM_loosest_110 hl (by decide) rfl (fun ls hl => ?_)
            refine lv_iinc (v := (l6 + Int32.ofInt 1)) (lv' := [(6, .int (l6 + Int32.ofInt 1)), (5, .int l5), (3, .int l6), (4, .int k0), (7, .int k0), (0, .ref h0), (1, .int l1), (2, .int l2)]) hx hb d_MM_loosest_112 hl (k := 7) rfl rfl (by decide) rfl (fun ls hl => ?_)
            refine lv_goto (tgt := 11) hx hb d_MM_loosest_115 (by decide) ?_
            exact ih1 l6 k0 l5 (l6 + Int32.ofInt 1) 0   _ _ _ hF q_h0_kinds q_h0_kinds_all hP1 hD1 hS1 (lv_sub hl [5, 6, 7, 2, 3, 1, 0] rfl)
          · replace hF := ifn (fun h9 => h9 c9) hF
            refine lv_iload hx hb d_MM_loosest_101 (lv_at hl 6 rfl) ?_
            refine lv_iconst (v := 1) hx hb d_MM_loosest_103 (by decide) ?_
            refine lv_iadd hx hb d_MM_loosest_104 ?_
            refine lv_goto (tgt := 110) hx hb d_MM_loosest_105 (by decide) ?_
            refine lv_istore (lv' := [(5, .int (l5 + 1)), (3, .int l6), (4, .int k0), (7, .int k0), (0, .ref h0), (1, .int l1), (2, .int l2), (6, .int l6)]) hx hb d_MM_loosest_110 hl (by decide) rfl (fun ls hl => ?_)
            refine lv_iinc (v := (l6 + Int32.ofInt 1)) (lv' := [(6, .int (l6 + Int32.ofInt 1)), (5, .int (l5 + 1)), (3, .int l6), (4, .int k0), (7, .int k0), (0, .ref h0), (1, .int l1), (2, .int l2)]) hx hb d_MM_loosest_112 hl (k := 7) rfl rfl (by decide) rfl (fun ls hl => ?_)
            refine lv_goto (tgt := 11) hx hb d_MM_loosest_115 (by decide) ?_
            exact ih1 l6 k0 (l5 + 1) (l6 + Int32.ofInt 1) 0   _ _ _ hF q_h0_kinds q_h0_kinds_all hP1 hD1 hS1 (lv_sub hl [5, 6, 7, 2, 3, 1, 0] rfl)
set_option maxHeartbeats 4000000 in
set_option maxRecDepth 100000 in
theorem a_MM_loosest {p : Program} {l : Launch} {e : Env} {s : State} {m : MethodId} {args : Array Value} {below : List Frame} {meth : Method} {c : Code} {D : va_G} {tA : Nat → ClassId} {A : Nat → Prop} {h0 h0_kinds h0_kinds_all : Nat} {f0_h0 f0_h0_kinds : List Value} {h0_kinds_all_n : Nat} {l1 : Int32} {l2 : Int32} {h0_kinds_all_c : Nat → Int32} {out : Int32} (hx : p.tables.exec = Jvm.exec) (hb : c.code = prog_15_method_36_code) (hr : meth.sig.returnType = (Option.some Jvm.ClassFile.FieldType.int)) (hml : c.maxLocals = 8) (hh : zH s) (hg : ∀ w ∈ lw_R, w.before args s = true) (hown : s.vm.findClass "ChanceArenaModel" = some m.cls) (hlocks : meth.locks = false) (hK : va_K D vwCl (zT tA) s) (hA : ∀ q, s.heap.size ≤ q → A q) : ∀ n : Nat, (∀ (l3 : Int32) (l4 : Int32) (l5 : Int32) (l6 : Int32) (k0 : Int32) (H : Heap) (locs : List Loc) (ls : Array Slot), f_MM_loosest h0_kinds_all_n l1 l2 h0_kinds_all_c n 0 l3 l4 l5 l6 k0 = some out → f0_h0[3]? = some (.ref h0_kinds) → f0_h0_kinds[0]? = some (.ref h0_kinds_all) → va_P D vwCl [(h0, .inr (13, f0_h0)), (h0_kinds, .inr (14, f0_h0_kinds)), (h0_kinds_all, .inl (tA 0, h0_kinds_all_n, .inl h0_kinds_all_c))] H → va_D A [(h0, .inr (13, f0_h0)), (h0_kinds, .inr (14, f0_h0_kinds)), (h0_kinds_all, .inl (tA 0, h0_kinds_all_n, .inl h0_kinds_all_c))] → va_S A s.heap H locs → lv_has ls 8 [(0, .ref h0), (1, .int l1), (2, .int l2)] → W p l e { frames := 4, cells := 0, slots := 0, locals := 86 } s m args below meth c H locs 0 0 (MQ below (va_Qi (fun (r9 : Int32) (u9 : Unit) => r9 = out) (zPost D A (fun (u9 : Unit) => [(h0, .inr (13, f0_h0)), (h0_kinds, .inr (14, f0_h0_kinds)), (h0_kinds_all, .inl (tA 0, h0_kinds_all_n, .inl h0_kinds_all_c))])) A) args s 0 0 A) (F0 m 0 ls [])) ∧ (∀ (l3 : Int32) (l4 : Int32) (l5 : Int32) (l6 : Int32) (k0 : Int32) (H : Heap) (locs : List Loc) (ls : Array Slot), f_MM_loosest h0_kinds_all_n l1 l2 h0_kinds_all_c n 1 l3 l4 l5 l6 k0 = some out → f0_h0[3]? = some (.ref h0_kinds) → f0_h0_kinds[0]? = some (.ref h0_kinds_all) → va_P D vwCl [(h0, .inr (13, f0_h0)), (h0_kinds, .inr (14, f0_h0_kinds)), (h0_kinds_all, .inl (tA 0, h0_kinds_all_n, .inl h0_kinds_all_c))] H → va_D A [(h0, .inr (13, f0_h0)), (h0_kinds, .inr (14, f0_h0_kinds)), (h0_kinds_all, .inl (tA 0, h0_kinds_all_n, .inl h0_kinds_all_c))] → va_S A s.heap H locs → lv_has ls 8 [(0, .ref h0), (1, .int l1), (2, .int l2), (3, .int l3), (4, .int l4), (5, .int l5), (6, .int l6)] → W p l e { frames := 4, cells := 0, slots := 0, locals := 86 } s m args below meth c H locs 0 0 (MQ below (va_Qi (fun (r9 : Int32) (u9 : Unit) => r9 = out) (zPost D A (fun (u9 : Unit) => [(h0, .inr (13, f0_h0)), (h0_kinds, .inr (14, f0_h0_kinds)), (h0_kinds_all, .inl (tA 0, h0_kinds_all_n, .inl h0_kinds_all_c))])) A) args s 0 0 A) (F0 m 11 ls [])) ∧ (∀ (l3 : Int32) (l4 : Int32) (l5 : Int32) (l6 : Int32) (k0 : Int32) (H : Heap) (locs : List Loc) (ls : Array Slot), f_MM_loosest h0_kinds_all_n l1 l2 h0_kinds_all_c n 2 l3 l4 l5 l6 k0 = some out → f0_h0[3]? = some (.ref h0_kinds) → f0_h0_kinds[0]? = some (.ref h0_kinds_all) → va_P D vwCl [(h0, .inr (13, f0_h0)), (h0_kinds, .inr (14, f0_h0_kinds)), (h0_kinds_all, .inl (tA 0, h0_kinds_all_n, .inl h0_kinds_all_c))] H → va_D A [(h0, .inr (13, f0_h0)), (h0_kinds, .inr (14, f0_h0_kinds)), (h0_kinds_all, .inl (tA 0, h0_kinds_all_n, .inl h0_kinds_all_c))] → va_S A s.heap H locs → lv_has ls 8 [(0, .ref h0), (1, .int l1), (2, .int l2), (3, .int l3), (4, .int l4), (5, .int l5), (6, .int l6)] → W p l e { frames := 4, cells := 0, slots := 0, locals := 86 } s m args below meth c H locs 0 0 (MQ below (va_Qi (fun (r9 : Int32) (u9 : Unit) => r9 = out) (zPost D A (fun (u9 : Unit) => [(h0, .inr (13, f0_h0)), (h0_kinds, .inr (14, f0_h0_kinds)), (h0_kinds_all, .inl (tA 0, h0_kinds_all_n, .inl h0_kinds_all_c))])) A) args s 0 0 A) (F0 m 55 ls [.int k0])) := by
  intro n
  induction n with
  | zero => exact ⟨(fun _ _ _ _ _ _ _ _ hF => by rw [z_MM_loosest] at hF; cases hF), (fun _ _ _ _ _ _ _ _ hF => by rw [z_MM_loosest] at hF; cases hF), (fun _ _ _ _ _ _ _ _ hF => by rw [z_MM_loosest] at hF; cases hF)⟩
  | succ n ih =>
    obtain ⟨i0, i1, i2⟩ := ih
    exact ⟨b_MM_loosest_0 hx hb hr hml hh hg hown hlocks hK hA i1, b_MM_loosest_1 hx hb hr hml hh hg hown hlocks hK hA i2, b_MM_loosest_2 hx hb hr hml hh hg hown hlocks hK hA i1⟩
set_option maxHeartbeats 4000000 in
set_option maxRecDepth 100000 in
theorem m_MM_loosest (l : Launch) (D : va_G) (tA : Nat → ClassId) (sz : Nat) (h0 h0_kinds h0_kinds_all : Nat) (f0_h0 f0_h0_kinds : List Value) (h0_kinds_all_n : Nat) (l1 : Int32) (l2 : Int32) (h0_kinds_all_c : Nat → Int32) (q_h0_kinds : f0_h0[3]? = some (.ref h0_kinds)) (q_h0_kinds_all : f0_h0_kinds[0]? = some (.ref h0_kinds_all)) (n : Nat) (out : Int32) (hF : f_MM_loosest h0_kinds_all_n l1 l2 h0_kinds_all_c n 0 0 0 0 0 0 = some out) : zMi l ({ cls := "ChanceArenaModel", name := "loosest", desc := "(II)I" } : Jvm.MethodName) (zW (Jvm.Cond.code ({ cls := "ChanceArenaModel", name := "loosest", desc := "(II)I" } : Jvm.MethodName) prog_15_method_36_code (8 : Nat) (Option.some Jvm.ClassFile.FieldType.int))) { frames := 4, cells := 0, slots := 0, locals := 86 } [.ref h0, .int l1, .int l2] D tA [(h0, .inr (13, f0_h0)), (h0_kinds, .inr (14, f0_h0_kinds)), (h0_kinds_all, .inl (tA 0, h0_kinds_all_n, .inl h0_kinds_all_c))] sz (fun (r9 : Int32) (u9 : Unit) => r9 = out) (fun (u9 : Unit) => [(h0, .inr (13, f0_h0)), (h0_kinds, .inr (14, f0_h0_kinds)), (h0_kinds_all, .inl (tA 0, h0_kinds_all_n, .inl h0_kinds_all_c))]) 0 0 := by
  refine zOpen (l := l) (y := ({ cls := "ChanceArenaModel", name := "loosest", desc := "(II)I" } : Jvm.MethodName)) (ws := zW (Jvm.Cond.code ({ cls := "ChanceArenaModel", name := "loosest", desc := "(II)I" } : Jvm.MethodName) prog_15_method_36_code (8 : Nat) (Option.some Jvm.ClassFile.FieldType.int))) (rm := { frames := 4, cells := 0, slots := 0, locals := 86 }) (av := [.ref h0, .int l1, .int l2]) (D := D) (tA := tA) (W0 := [(h0, .inr (13, f0_h0)), (h0_kinds, .inr (14, f0_h0_kinds)), (h0_kinds_all, .inl (tA 0, h0_kinds_all_n, .inl h0_kinds_all_c))]) (Wm := [(h0, .inr (13, f0_h0)), (h0_kinds, .inr (14, f0_h0_kinds)), (h0_kinds_all, .inl (tA 0, h0_kinds_all_n, .inl h0_kinds_all_c))]) (sz := sz) (mc := 0) (ms := 0) (fun A => va_Qi (fun (r9 : Int32) (u9 : Unit) => r9 = out) (zPost D A (fun (u9 : Unit) => [(h0, .inr (13, f0_h0)), (h0_kinds, .inr (14, f0_h0_kinds)), (h0_kinds_all, .inl (tA 0, h0_kinds_all_n, .inl h0_kinds_all_c))])) A) (lv := [(0, .ref h0), (1, .int l1), (2, .int l2)]) (by decide) rfl (Nat.le_of_ble_eq_true rfl) rfl ?_
  intro p e s m below meth c A ls hx hb hr hml hh hg hown hlocks hnm hK hA hP hD0 hAw hS hl
  have hD := zD hD0 hAw
  exact (a_MM_loosest hx hb hr hml hh hg hown hlocks hK hA n).1 0 0 0 0 0   _ _ _ hF q_h0_kinds q_h0_kinds_all hP hD hS hl
def f_MM_colonOf (h0_kinds_all_n : Nat) (l1 : Int32) (l2 : Int32) (h0_kinds_all_c : Nat → Int32) : Nat → Nat → Int32 → Int32 → Int32 → Int32 → Int32 → Int32 → Option (Int32)
  | 0, _, _, _, _, _, _, _ => none
  | n + 1, 0, l3, l4, l5, l6, l7, k0 => chk True (f_MM_colonOf h0_kinds_all_n l1 l2 h0_kinds_all_c n 1 0 0 l1 0 0 0)
  | n + 1, 1, l3, l4, l5, l6, l7, k0 => if ¬ (l6 : Int32) = 0 then some (l5) else Option.bind (f_MM_word1 h0_kinds_all_n (l5 + Int32.ofInt 1) h0_kinds_all_c) (fun o1 => if ¬ (o1 : Int32) = 36 then (if ¬ (o1 : Int32) = 37 then (if ¬ (o1 : Int32) = 33 then f_MM_colonOf h0_kinds_all_n l1 l2 h0_kinds_all_c n 2 l3 l4 (l5 + Int32.ofInt 1) l6 o1 0 else if ¬ (l4 : Int32) = 0 then f_MM_colonOf h0_kinds_all_n l1 l2 h0_kinds_all_c n 2 l3 l4 (l5 + Int32.ofInt 1) l6 o1 0 else if ¬ (l3 : Int32) = 0 then f_MM_colonOf h0_kinds_all_n l1 l2 h0_kinds_all_c n 2 l3 l4 (l5 + Int32.ofInt 1) l6 o1 0 else f_MM_colonOf h0_kinds_all_n l1 l2 h0_kinds_all_c n 2 l3 l4 (l5 + Int32.ofInt 1) l6 o1 1) else if ¬ (o1 : Int32) = 33 then f_MM_colonOf h0_kinds_all_n l1 l2 h0_kinds_all_c n 2 l3 (l4 - 1) (l5 + Int32.ofInt 1) l6 o1 0 else if ¬ ((l4 - 1) : Int32) = 0 then f_MM_colonOf h0_kinds_all_n l1 l2 h0_kinds_all_c n 2 l3 (l4 - 1) (l5 + Int32.ofInt 1) l6 o1 0 else if ¬ (l3 : Int32) = 0 then f_MM_colonOf h0_kinds_all_n l1 l2 h0_kinds_all_c n 2 l3 (l4 - 1) (l5 + Int32.ofInt 1) l6 o1 0 else f_MM_colonOf h0_kinds_all_n l1 l2 h0_kinds_all_c n 2 l3 (l4 - 1) (l5 + Int32.ofInt 1) l6 o1 1) else if ¬ (o1 : Int32) = 33 then f_MM_colonOf h0_kinds_all_n l1 l2 h0_kinds_all_c n 2 l3 (l4 + 1) (l5 + Int32.ofInt 1) l6 o1 0 else if ¬ ((l4 + 1) : Int32) = 0 then f_MM_colonOf h0_kinds_all_n l1 l2 h0_kinds_all_c n 2 l3 (l4 + 1) (l5 + Int32.ofInt 1) l6 o1 0 else if ¬ (l3 : Int32) = 0 then f_MM_colonOf h0_kinds_all_n l1 l2 h0_kinds_all_c n 2 l3 (l4 + 1) (l5 + Int32.ofInt 1) l6 o1 0 else f_MM_colonOf h0_kinds_all_n l1 l2 h0_kinds_all_c n 2 l3 (l4 + 1) (l5 + Int32.ofInt 1) l6 o1 1)
  | n + 1, 2, l3, l4, l5, l6, l7, k0 => if (l4 : Int32) ≤ 0 then (if ¬ (l7 : Int32) = 32 then (if ¬ (l7 : Int32) = 33 then f_MM_colonOf h0_kinds_all_n l1 l2 h0_kinds_all_c n 1 l3 l4 l5 k0 0 0 else f_MM_colonOf h0_kinds_all_n l1 l2 h0_kinds_all_c n 1 (l3 - 1) l4 l5 k0 0 0) else f_MM_colonOf h0_kinds_all_n l1 l2 h0_kinds_all_c n 1 (l3 + 1) l4 l5 k0 0 0) else f_MM_colonOf h0_kinds_all_n l1 l2 h0_kinds_all_c n 1 l3 l4 l5 k0 0 0
  | _ + 1, _ + 3, _, _, _, _, _, _ => none
theorem e_MM_colonOf_0 (h0_kinds_all_n : Nat) (l1 : Int32) (l2 : Int32) (h0_kinds_all_c : Nat → Int32) (n : Nat) (l3 : Int32) (l4 : Int32) (l5 : Int32) (l6 : Int32) (l7 : Int32) (k0 : Int32) : f_MM_colonOf h0_kinds_all_n l1 l2 h0_kinds_all_c (n + 1) 0 l3 l4 l5 l6 l7 k0 = chk True (f_MM_colonOf h0_kinds_all_n l1 l2 h0_kinds_all_c n 1 0 0 l1 0 0 0) := by rw [f_MM_colonOf]
theorem e_MM_colonOf_1 (h0_kinds_all_n : Nat) (l1 : Int32) (l2 : Int32) (h0_kinds_all_c : Nat → Int32) (n : Nat) (l3 : Int32) (l4 : Int32) (l5 : Int32) (l6 : Int32) (l7 : Int32) (k0 : Int32) : f_MM_colonOf h0_kinds_all_n l1 l2 h0_kinds_all_c (n + 1) 1 l3 l4 l5 l6 l7 k0 = if ¬ (l6 : Int32) = 0 then some (l5) else Option.bind (f_MM_word1 h0_kinds_all_n (l5 + Int32.ofInt 1) h0_kinds_all_c) (fun o1 => if ¬ (o1 : Int32) = 36 then (if ¬ (o1 : Int32) = 37 then (if ¬ (o1 : Int32) = 33 then f_MM_colonOf h0_kinds_all_n l1 l2 h0_kinds_all_c n 2 l3 l4 (l5 + Int32.ofInt 1) l6 o1 0 else if ¬ (l4 : Int32) = 0 then f_MM_colonOf h0_kinds_all_n l1 l2 h0_kinds_all_c n 2 l3 l4 (l5 + Int32.ofInt 1) l6 o1 0 else if ¬ (l3 : Int32) = 0 then f_MM_colonOf h0_kinds_all_n l1 l2 h0_kinds_all_c n 2 l3 l4 (l5 + Int32.ofInt 1) l6 o1 0 else f_MM_colonOf h0_kinds_all_n l1 l2 h0_kinds_all_c n 2 l3 l4 (l5 + Int32.ofInt 1) l6 o1 1) else if ¬ (o1 : Int32) = 33 then f_MM_colonOf h0_kinds_all_n l1 l2 h0_kinds_all_c n 2 l3 (l4 - 1) (l5 + Int32.ofInt 1) l6 o1 0 else if ¬ ((l4 - 1) : Int32) = 0 then f_MM_colonOf h0_kinds_all_n l1 l2 h0_kinds_all_c n 2 l3 (l4 - 1) (l5 + Int32.ofInt 1) l6 o1 0 else if ¬ (l3 : Int32) = 0 then f_MM_colonOf h0_kinds_all_n l1 l2 h0_kinds_all_c n 2 l3 (l4 - 1) (l5 + Int32.ofInt 1) l6 o1 0 else f_MM_colonOf h0_kinds_all_n l1 l2 h0_kinds_all_c n 2 l3 (l4 - 1) (l5 + Int32.ofInt 1) l6 o1 1) else if ¬ (o1 : Int32) = 33 then f_MM_colonOf h0_kinds_all_n l1 l2 h0_kinds_all_c n 2 l3 (l4 + 1) (l5 + Int32.ofInt 1) l6 o1 0 else if ¬ ((l4 + 1) : Int32) = 0 then f_MM_colonOf h0_kinds_all_n l1 l2 h0_kinds_all_c n 2 l3 (l4 + 1) (l5 + Int32.ofInt 1) l6 o1 0 else if ¬ (l3 : Int32) = 0 then f_MM_colonOf h0_kinds_all_n l1 l2 h0_kinds_all_c n 2 l3 (l4 + 1) (l5 + Int32.ofInt 1) l6 o1 0 else f_MM_colonOf h0_kinds_all_n l1 l2 h0_kinds_all_c n 2 l3 (l4 + 1) (l5 + Int32.ofInt 1) l6 o1 1) := by rw [f_MM_colonOf]
theorem e_MM_colonOf_2 (h0_kinds_all_n : Nat) (l1 : Int32) (l2 : Int32) (h0_kinds_all_c : Nat → Int32) (n : Nat) (l3 : Int32) (l4 : Int32) (l5 : Int32) (l6 : Int32) (l7 : Int32) (k0 : Int32) : f_MM_colonOf h0_kinds_all_n l1 l2 h0_kinds_all_c (n + 1) 2 l3 l4 l5 l6 l7 k0 = if (l4 : Int32) ≤ 0 then (if ¬ (l7 : Int32) = 32 then (if ¬ (l7 : Int32) = 33 then f_MM_colonOf h0_kinds_all_n l1 l2 h0_kinds_all_c n 1 l3 l4 l5 k0 0 0 else f_MM_colonOf h0_kinds_all_n l1 l2 h0_kinds_all_c n 1 (l3 - 1) l4 l5 k0 0 0) else f_MM_colonOf h0_kinds_all_n l1 l2 h0_kinds_all_c n 1 (l3 + 1) l4 l5 k0 0 0) else f_MM_colonOf h0_kinds_all_n l1 l2 h0_kinds_all_c n 1 l3 l4 l5 k0 0 0 := by rw [f_MM_colonOf]
theorem z_MM_colonOf (h0_kinds_all_n : Nat) (l1 : Int32) (l2 : Int32) (h0_kinds_all_c : Nat → Int32) (h : Nat) (l3 : Int32) (l4 : Int32) (l5 : Int32) (l6 : Int32) (l7 : Int32) (k0 : Int32) : f_MM_colonOf h0_kinds_all_n l1 l2 h0_kinds_all_c 0 h l3 l4 l5 l6 l7 k0 = none := by rw [f_MM_colonOf]
set_option maxHeartbeats 4000000 in
set_option maxRecDepth 100000 in
theorem b_MM_colonOf_0 {p : Program} {l : Launch} {e : Env} {s : State} {m : MethodId} {args : Array Value} {below : List Frame} {meth : Method} {c : Code} {D : va_G} {tA : Nat → ClassId} {A : Nat → Prop} {h0 h0_kinds h0_kinds_all : Nat} {f0_h0 f0_h0_kinds : List Value} {h0_kinds_all_n : Nat} {l1 : Int32} {l2 : Int32} {h0_kinds_all_c : Nat → Int32} {out : Int32} (hx : p.tables.exec = Jvm.exec) (hb : c.code = prog_15_method_37_code) (hr : meth.sig.returnType = (Option.some Jvm.ClassFile.FieldType.int)) (hml : c.maxLocals = 8) (hh : zH s) (hg : ∀ w ∈ lw_R, w.before args s = true) (hown : s.vm.findClass "ChanceArenaModel" = some m.cls) (hlocks : meth.locks = false) (hK : va_K D vwCl (zT tA) s) (hA : ∀ q, s.heap.size ≤ q → A q) {n : Nat} (ih1 : ∀ (l3 : Int32) (l4 : Int32) (l5 : Int32) (l6 : Int32) (l7 : Int32) (k0 : Int32) (H : Heap) (locs : List Loc) (ls : Array Slot), f_MM_colonOf h0_kinds_all_n l1 l2 h0_kinds_all_c n 1 l3 l4 l5 l6 l7 k0 = some out → f0_h0[3]? = some (.ref h0_kinds) → f0_h0_kinds[0]? = some (.ref h0_kinds_all) → va_P D vwCl [(h0, .inr (13, f0_h0)), (h0_kinds, .inr (14, f0_h0_kinds)), (h0_kinds_all, .inl (tA 0, h0_kinds_all_n, .inl h0_kinds_all_c))] H → va_D A [(h0, .inr (13, f0_h0)), (h0_kinds, .inr (14, f0_h0_kinds)), (h0_kinds_all, .inl (tA 0, h0_kinds_all_n, .inl h0_kinds_all_c))] → va_S A s.heap H locs → lv_has ls 8 [(0, .ref h0), (1, .int l1), (2, .int l2), (3, .int l3), (4, .int l4), (5, .int l5), (6, .int l6)] → W p l e { frames := 2, cells := 0, slots := 0, locals := 42 } s m args below meth c H locs 0 0 (MQ below (va_Qi (fun (r9 : Int32) (u9 : Unit) => r9 = out) (zPost D A (fun (u9 : Unit) => [(h0, .inr (13, f0_h0)), (h0_kinds, .inr (14, f0_h0_kinds)), (h0_kinds_all, .inl (tA 0, h0_kinds_all_n, .inl h0_kinds_all_c))])) A) args s 0 0 A) (F0 m 11 ls [])) : ∀ (l3 : Int32) (l4 : Int32) (l5 : Int32) (l6 : Int32) (l7 : Int32) (k0 : Int32) (H : Heap) (locs : List Loc) (ls : Array Slot), f_MM_colonOf h0_kinds_all_n l1 l2 h0_kinds_all_c (n + 1) 0 l3 l4 l5 l6 l7 k0 = some out → f0_h0[3]? = some (.ref h0_kinds) → f0_h0_kinds[0]? = some (.ref h0_kinds_all) → va_P D vwCl [(h0, .inr (13, f0_h0)), (h0_kinds, .inr (14, f0_h0_kinds)), (h0_kinds_all, .inl (tA 0, h0_kinds_all_n, .inl h0_kinds_all_c))] H → va_D A [(h0, .inr (13, f0_h0)), (h0_kinds, .inr (14, f0_h0_kinds)), (h0_kinds_all, .inl (tA 0, h0_kinds_all_n, .inl h0_kinds_all_c))] → va_S A s.heap H locs → lv_has ls 8 [(0, .ref h0), (1, .int l1), (2, .int l2)] → W p l e { frames := 2, cells := 0, slots := 0, locals := 42 } s m args below meth c H locs 0 0 (MQ below (va_Qi (fun (r9 : Int32) (u9 : Unit) => r9 = out) (zPost D A (fun (u9 : Unit) => [(h0, .inr (13, f0_h0)), (h0_kinds, .inr (14, f0_h0_kinds)), (h0_kinds_all, .inl (tA 0, h0_kinds_all_n, .inl h0_kinds_all_c))])) A) args s 0 0 A) (F0 m 0 ls []) := by
  intro l3 l4 l5 l6 l7 k0   H locs ls hF q_h0_kinds q_h0_kinds_all hP hD hS hl
  rw [e_MM_colonOf_0] at hF
  obtain ⟨_, hF⟩ := chk_some hF
  refine lv_iconst (v := 0) hx hb d_MM_colonOf_0 (by decide) ?_
  refine lv_istore_n (lv' := [(3, .int 0), (0, .ref h0), (1, .int l1), (2, .int l2)]) hx hb d_MM_colonOf_1 rfl hl (by decide) rfl (fun ls hl => ?_)
  refine lv_iconst (v := 0) hx hb d_MM_colonOf_2 (by decide) ?_
  refine lv_istore (lv' := [(4, .int 0), (3, .int 0), (0, .ref h0), (1, .int l1), (2, .int l2)]) hx hb d_MM_colonOf_3 hl (by decide) rfl (fun ls hl => ?_)
  refine lv_iload_n hx hb d_MM_colonOf_5 rfl (lv_at hl 3 rfl) ?_
  refine lv_istore (lv' := [(5, .int l1), (4, .int 0), (3, .int 0), (0, .ref h0), (1, .int l1), (2, .int l2)]) hx hb d_MM_colonOf_6 hl (by decide) rfl (fun ls hl => ?_)
  refine lv_iconst (v := 0) hx hb d_MM_colonOf_8 (by decide) ?_
  refine lv_istore (lv' := [(6, .int 0), (5, .int l1), (4, .int 0), (3, .int 0), (0, .ref h0), (1, .int l1), (2, .int l2)]) hx hb d_MM_colonOf_9 hl (by decide) rfl (fun ls hl => ?_)
  exact ih1 0 0 l1 0 0 0   _ _ _ hF q_h0_kinds q_h0_kinds_all hP hD hS (lv_sub hl [4, 5, 6, 3, 2, 1, 0] rfl)
set_option maxHeartbeats 4000000 in
set_option maxRecDepth 100000 in
theorem b_MM_colonOf_1 {p : Program} {l : Launch} {e : Env} {s : State} {m : MethodId} {args : Array Value} {below : List Frame} {meth : Method} {c : Code} {D : va_G} {tA : Nat → ClassId} {A : Nat → Prop} {h0 h0_kinds h0_kinds_all : Nat} {f0_h0 f0_h0_kinds : List Value} {h0_kinds_all_n : Nat} {l1 : Int32} {l2 : Int32} {h0_kinds_all_c : Nat → Int32} {out : Int32} (hx : p.tables.exec = Jvm.exec) (hb : c.code = prog_15_method_37_code) (hr : meth.sig.returnType = (Option.some Jvm.ClassFile.FieldType.int)) (hml : c.maxLocals = 8) (hh : zH s) (hg : ∀ w ∈ lw_R, w.before args s = true) (hown : s.vm.findClass "ChanceArenaModel" = some m.cls) (hlocks : meth.locks = false) (hK : va_K D vwCl (zT tA) s) (hA : ∀ q, s.heap.size ≤ q → A q) {n : Nat} (ih2 : ∀ (l3 : Int32) (l4 : Int32) (l5 : Int32) (l6 : Int32) (l7 : Int32) (k0 : Int32) (H : Heap) (locs : List Loc) (ls : Array Slot), f_MM_colonOf h0_kinds_all_n l1 l2 h0_kinds_all_c n 2 l3 l4 l5 l6 l7 k0 = some out → f0_h0[3]? = some (.ref h0_kinds) → f0_h0_kinds[0]? = some (.ref h0_kinds_all) → va_P D vwCl [(h0, .inr (13, f0_h0)), (h0_kinds, .inr (14, f0_h0_kinds)), (h0_kinds_all, .inl (tA 0, h0_kinds_all_n, .inl h0_kinds_all_c))] H → va_D A [(h0, .inr (13, f0_h0)), (h0_kinds, .inr (14, f0_h0_kinds)), (h0_kinds_all, .inl (tA 0, h0_kinds_all_n, .inl h0_kinds_all_c))] → va_S A s.heap H locs → lv_has ls 8 [(0, .ref h0), (1, .int l1), (2, .int l2), (3, .int l3), (4, .int l4), (5, .int l5), (6, .int l6), (7, .int l7)] → W p l e { frames := 2, cells := 0, slots := 0, locals := 42 } s m args below meth c H locs 0 0 (MQ below (va_Qi (fun (r9 : Int32) (u9 : Unit) => r9 = out) (zPost D A (fun (u9 : Unit) => [(h0, .inr (13, f0_h0)), (h0_kinds, .inr (14, f0_h0_kinds)), (h0_kinds_all, .inl (tA 0, h0_kinds_all_n, .inl h0_kinds_all_c))])) A) args s 0 0 A) (F0 m 80 ls [.int k0])) : ∀ (l3 : Int32) (l4 : Int32) (l5 : Int32) (l6 : Int32) (l7 : Int32) (k0 : Int32) (H : Heap) (locs : List Loc) (ls : Array Slot), f_MM_colonOf h0_kinds_all_n l1 l2 h0_kinds_all_c (n + 1) 1 l3 l4 l5 l6 l7 k0 = some out → f0_h0[3]? = some (.ref h0_kinds) → f0_h0_kinds[0]? = some (.ref h0_kinds_all) → va_P D vwCl [(h0, .inr (13, f0_h0)), (h0_kinds, .inr (14, f0_h0_kinds)), (h0_kinds_all, .inl (tA 0, h0_kinds_all_n, .inl h0_kinds_all_c))] H → va_D A [(h0, .inr (13, f0_h0)), (h0_kinds, .inr (14, f0_h0_kinds)), (h0_kinds_all, .inl (tA 0, h0_kinds_all_n, .inl h0_kinds_all_c))] → va_S A s.heap H locs → lv_has ls 8 [(0, .ref h0), (1, .int l1), (2, .int l2), (3, .int l3), (4, .int l4), (5, .int l5), (6, .int l6)] → W p l e { frames := 2, cells := 0, slots := 0, locals := 42 } s m args below meth c H locs 0 0 (MQ below (va_Qi (fun (r9 : Int32) (u9 : Unit) => r9 = out) (zPost D A (fun (u9 : Unit) => [(h0, .inr (13, f0_h0)), (h0_kinds, .inr (14, f0_h0_kinds)), (h0_kinds_all, .inl (tA 0, h0_kinds_all_n, .inl h0_kinds_all_c))])) A) args s 0 0 A) (F0 m 11 ls []) := by
  intro l3 l4 l5 l6 l7 k0   H locs ls hF q_h0_kinds q_h0_kinds_all hP hD hS hl
  rw [e_MM_colonOf_1] at hF
  refine lv_iload hx hb d_MM_colonOf_11 (lv_at hl 6 rfl) ?_
  refine lv_if_ne (tgt := 122) hx hb d_MM_colonOf_13 (by decide) (fun c9 => ?_) (fun c9 => ?_)
  · replace hF := ifp c9 hF
    refine lv_iload hx hb d_MM_colonOf_122 (lv_at hl 5 rfl) ?_
    replace hF := Option.some.inj hF
    subst hF
    exact zZret (post := (fun (r9 : Int32) (u9 : Unit) => r9 = l5)) (W1 := (fun (u9 : Unit) => [(h0, .inr (13, f0_h0)), (h0_kinds, .inr (14, f0_h0_kinds)), (h0_kinds_all, .inl (tA 0, h0_kinds_all_n, .inl h0_kinds_all_c))])) (v := l5) hx hb hr rfl hlocks hP hD hS () rfl rfl d_MM_colonOf_124
  · replace hF := ifn (fun h9 => h9 c9) hF
    refine lv_iinc (v := (l5 + Int32.ofInt 1)) (lv' := [(5, .int (l5 + Int32.ofInt 1)), (0, .ref h0), (1, .int l1), (2, .int l2), (3, .int l3), (4, .int l4), (6, .int l6)]) hx hb d_MM_colonOf_16 hl (k := 5) rfl rfl (by decide) rfl (fun ls hl => ?_)
    refine lv_aload_n hx hb d_MM_colonOf_19 rfl (lv_at hl 1 rfl) ?_
    refine lv_iload hx hb d_MM_colonOf_20 (lv_at hl 0 rfl) ?_
    obtain ⟨o1, h1, hF⟩ := bsome hF
    refine zCalli (wc := [(h0, .inr (13, f0_h0)), (h0_kinds, .inr (14, f0_h0_kinds)), (h0_kinds_all, .inl (tA 0, h0_kinds_all_n, .inl h0_kinds_all_c))]) (wr := []) hP hD hS hA [0, 1, 2] [] rfl rfl (by decide) (by decide) (va_runV (As := [.int (l5 + Int32.ofInt 1)]) (rest := []) ⟨hx, hb, hml, hown, hg⟩ (m_MM_word1 l D tA _ h0 h0_kinds h0_kinds_all f0_h0 f0_h0_kinds h0_kinds_all_n (l5 + Int32.ofInt 1) h0_kinds_all_c q_h0_kinds q_h0_kinds_all o1 h1) (zV 1 hg k11_93 k11_95 ks_MM_word1 k1_14 k11_96 rfl rfl (by decide +kernel) ⟨(Nat.le_of_ble_eq_true rfl), (Nat.le_of_ble_eq_true rfl)⟩) (zPreV hh hK hP hD [0, 1, 2] (by decide) rfl (ci := 13) rfl 0 rfl) rfl rfl hl.1 rfl (lv_room (Nat.le_of_ble_eq_true rfl)) d_MM_colonOf_22 ⟨(Nat.le_of_ble_eq_true rfl), (Nat.le_of_ble_eq_true rfl)⟩) (fun r1 u1 H1 locs1 e1 hP1 hD1 hS1 => ?_)
    clear hP hD hS
    refine W.cs (cells' := 0) (slots' := 0) rfl rfl ?_
    have x1 := e1
    rw [x1]
    replace hP1 : va_P D vwCl [(h0, .inr (13, f0_h0)), (h0_kinds, .inr (14, f0_h0_kinds)), (h0_kinds_all, .inl (tA 0, h0_kinds_all_n, .inl h0_kinds_all_c))] _ := hP1
    replace hD1 : va_D A [(h0, .inr (13, f0_h0)), (h0_kinds, .inr (14, f0_h0_kinds)), (h0_kinds_all, .inl (tA 0, h0_kinds_all_n, .inl h0_kinds_all_c))] := hD1
    refine lv_istore (lv' := [(7, .int o1), (5, .int (l5 + Int32.ofInt 1)), (0, .ref h0), (1, .int l1), (2, .int l2), (3, .int l3), (4, .int l4), (6, .int l6)]) hx hb d_MM_colonOf_25 hl (by decide) rfl (fun ls hl => ?_)
    refine lv_iload hx hb d_MM_colonOf_27 (lv_at hl 0 rfl) ?_
    refine lv_bipush (v := 36) hx hb d_MM_colonOf_29 (by decide) ?_
    refine lv_icmp_ne (tgt := 41) hx hb d_MM_colonOf_31 (by decide) (fun c9 => ?_) (fun c9 => ?_)
    · replace hF := ifp c9 hF
      refine lv_iload hx hb d_MM_colonOf_41 (lv_at hl 0 rfl) ?_
      refine lv_bipush (v := 37) hx hb d_MM_colonOf_43 (by decide) ?_
      refine lv_icmp_ne (tgt := 55) hx hb d_MM_colonOf_45 (by decide) (fun c9 => ?_) (fun c9 => ?_)
      · replace hF := ifp c9 hF
        refine lv_iload hx hb d_MM_colonOf_55 (lv_at hl 6 rfl) ?_
        refine lv_istore (lv' := [(4, .int l4), (7, .int o1), (5, .int (l5 + Int32.ofInt 1)), (0, .ref h0), (1, .int l1), (2, .int l2), (3, .int l3), (6, .int l6)]) hx hb d_MM_colonOf_57 hl (by decide) rfl (fun ls hl => ?_)
        refine lv_iload hx hb d_MM_colonOf_59 (lv_at hl 1 rfl) ?_
        refine lv_bipush (v := 33) hx hb d_MM_colonOf_61 (by decide) ?_
        refine lv_icmp_ne (tgt := 79) hx hb d_MM_colonOf_63 (by decide) (fun c9 => ?_) (fun c9 => ?_)
        · replace hF := ifp c9 hF
          refine lv_iconst (v := 0) hx hb d_MM_colonOf_79 (by decide) ?_
          exact ih2 l3 l4 (l5 + Int32.ofInt 1) l6 o1 0   _ _ _ hF q_h0_kinds q_h0_kinds_all hP1 hD1 hS1 (lv_sub hl [3, 4, 5, 6, 0, 2, 7, 1] rfl)
        · replace hF := ifn (fun h9 => h9 c9) hF
          refine lv_iload hx hb d_MM_colonOf_66 (lv_at hl 0 rfl) ?_
          refine lv_if_ne (tgt := 79) hx hb d_MM_colonOf_68 (by decide) (fun c9 => ?_) (fun c9 => ?_)
          · replace hF := ifp c9 hF
            refine lv_iconst (v := 0) hx hb d_MM_colonOf_79 (by decide) ?_
            exact ih2 l3 l4 (l5 + Int32.ofInt 1) l6 o1 0   _ _ _ hF q_h0_kinds q_h0_kinds_all hP1 hD1 hS1 (lv_sub hl [3, 4, 5, 6, 0, 2, 7, 1] rfl)
          · replace hF := ifn (fun h9 => h9 c9) hF
            refine lv_iload_n hx hb d_MM_colonOf_71 rfl (lv_at hl 6 rfl) ?_
            refine lv_if_ne (tgt := 79) hx hb d_MM_colonOf_72 (by decide) (fun c9 => ?_) (fun c9 => ?_)
            · replace hF := ifp c9 hF
              refine lv_iconst (v := 0) hx hb d_MM_colonOf_79 (by decide) ?_
              exact ih2 l3 l4 (l5 + Int32.ofInt 1) l6 o1 0   _ _ _ hF q_h0_kinds q_h0_kinds_all hP1 hD1 hS1 (lv_sub hl [3, 4, 5, 6, 0, 2, 7, 1] rfl)
            · replace hF := ifn (fun h9 => h9 c9) hF
              refine lv_iconst (v := 1) hx hb d_MM_colonOf_75 (by decide) ?_
              refine lv_goto (tgt := 80) hx hb d_MM_colonOf_76 (by decide) ?_
              exact ih2 l3 l4 (l5 + Int32.ofInt 1) l6 o1 1   _ _ _ hF q_h0_kinds q_h0_kinds_all hP1 hD1 hS1 (lv_sub hl [3, 4, 5, 6, 0, 2, 7, 1] rfl)
      · replace hF := ifn (fun h9 => h9 c9) hF
        refine lv_iload hx hb d_MM_colonOf_48 (lv_at hl 6 rfl) ?_
        refine lv_iconst (v := 1) hx hb d_MM_colonOf_50 (by decide) ?_
        refine lv_isub hx hb d_MM_colonOf_51 ?_
        refine lv_goto (tgt := 57) hx hb d_MM_colonOf_52 (by decide) ?_
        refine lv_istore (lv' := [(4, .int (l4 - 1)), (7, .int o1), (5, .int (l5 + Int32.ofInt 1)), (0, .ref h0), (1, .int l1), (2, .int l2), (3, .int l3), (6, .int l6)]) hx hb d_MM_colonOf_57 hl (by decide) rfl (fun ls hl => ?_)
        refine lv_iload hx hb d_MM_colonOf_59 (lv_at hl 1 rfl) ?_
        refine lv_bipush (v := 33) hx hb d_MM_colonOf_61 (by decide) ?_
        refine lv_icmp_ne (tgt := 79) hx hb d_MM_colonOf_63 (by decide) (fun c9 => ?_) (fun c9 => ?_)
        · replace hF := ifp c9 hF
          refine lv_iconst (v := 0) hx hb d_MM_colonOf_79 (by decide) ?_
          exact ih2 l3 (l4 - 1) (l5 + Int32.ofInt 1) l6 o1 0   _ _ _ hF q_h0_kinds q_h0_kinds_all hP1 hD1 hS1 (lv_sub hl [3, 4, 5, 6, 0, 2, 7, 1] rfl)
        · replace hF := ifn (fun h9 => h9 c9) hF
          refine lv_iload hx hb d_MM_colonOf_66 (lv_at hl 0 rfl) ?_
          refine lv_if_ne (tgt := 79) hx hb d_MM_colonOf_68 (by decide) (fun c9 => ?_) (fun c9 => ?_)
          · replace hF := ifp c9 hF
            refine lv_iconst (v := 0) hx hb d_MM_colonOf_79 (by decide) ?_
            exact ih2 l3 (l4 - 1) (l5 + Int32.ofInt 1) l6 o1 0   _ _ _ hF q_h0_kinds q_h0_kinds_all hP1 hD1 hS1 (lv_sub hl [3, 4, 5, 6, 0, 2, 7, 1] rfl)
          · replace hF := ifn (fun h9 => h9 c9) hF
            refine lv_iload_n hx hb d_MM_colonOf_71 rfl (lv_at hl 6 rfl) ?_
            refine lv_if_ne (tgt := 79) hx hb d_MM_colonOf_72 (by decide) (fun c9 => ?_) (fun c9 => ?_)
            · replace hF := ifp c9 hF
              refine lv_iconst (v := 0) hx hb d_MM_colonOf_79 (by decide) ?_
              exact ih2 l3 (l4 - 1) (l5 + Int32.ofInt 1) l6 o1 0   _ _ _ hF q_h0_kinds q_h0_kinds_all hP1 hD1 hS1 (lv_sub hl [3, 4, 5, 6, 0, 2, 7, 1] rfl)
            · replace hF := ifn (fun h9 => h9 c9) hF
              refine lv_iconst (v := 1) hx hb d_MM_colonOf_75 (by decide) ?_
              refine lv_goto (tgt := 80) hx hb d_MM_colonOf_76 (by decide) ?_
              exact ih2 l3 (l4 - 1) (l5 + Int32.ofInt 1) l6 o1 1   _ _ _ hF q_h0_kinds q_h0_kinds_all hP1 hD1 hS1 (lv_sub hl [3, 4, 5, 6, 0, 2, 7, 1] rfl)
    · replace hF := ifn (fun h9 => h9 c9) hF
      refine lv_iload hx hb d_MM_colonOf_34 (lv_at hl 6 rfl) ?_
      refine lv_iconst (v := 1) hx hb d_MM_colonOf_36 (by decide) ?_
      refine lv_iadd hx hb d_MM_colonOf_37 ?_
      refine lv_goto (tgt := 57) hx hb d_MM_colonOf_38 (by decide) ?_
      refine lv_istore (lv' := [(4, .int (l4 + 1)), (7, .int o1), (5, .int (l5 + Int32.ofInt 1)), (0, .ref h0), (1, .int l1), (2, .int l2), (3, .int l3), (6, .int l6)]) hx hb d_MM_colonOf_57 hl (by decide) rfl (fun ls hl => ?_)
      refine lv_iload hx hb d_MM_colonOf_59 (lv_at hl 1 rfl) ?_
      refine lv_bipush (v := 33) hx hb d_MM_colonOf_61 (by decide) ?_
      refine lv_icmp_ne (tgt := 79) hx hb d_MM_colonOf_63 (by decide) (fun c9 => ?_) (fun c9 => ?_)
      · replace hF := ifp c9 hF
        refine lv_iconst (v := 0) hx hb d_MM_colonOf_79 (by decide) ?_
        exact ih2 l3 (l4 + 1) (l5 + Int32.ofInt 1) l6 o1 0   _ _ _ hF q_h0_kinds q_h0_kinds_all hP1 hD1 hS1 (lv_sub hl [3, 4, 5, 6, 0, 2, 7, 1] rfl)
      · replace hF := ifn (fun h9 => h9 c9) hF
        refine lv_iload hx hb d_MM_colonOf_66 (lv_at hl 0 rfl) ?_
        refine lv_if_ne (tgt := 79) hx hb d_MM_colonOf_68 (by decide) (fun c9 => ?_) (fun c9 => ?_)
        · replace hF := ifp c9 hF
          refine lv_iconst (v := 0) hx hb d_MM_colonOf_79 (by decide) ?_
          exact ih2 l3 (l4 + 1) (l5 + Int32.ofInt 1) l6 o1 0   _ _ _ hF q_h0_kinds q_h0_kinds_all hP1 hD1 hS1 (lv_sub hl [3, 4, 5, 6, 0, 2, 7, 1] rfl)
        · replace hF := ifn (fun h9 => h9 c9) hF
          refine lv_iload_n hx hb d_MM_colonOf_71 rfl (lv_at hl 6 rfl) ?_
          refine lv_if_ne (tgt := 79) hx hb d_MM_colonOf_72 (by decide) (fun c9 => ?_) (fun c9 => ?_)
          · replace hF := ifp c9 hF
            refine lv_iconst (v := 0) hx hb d_MM_colonOf_79 (by decide) ?_
            exact ih2 l3 (l4 + 1) (l5 + Int32.ofInt 1) l6 o1 0   _ _ _ hF q_h0_kinds q_h0_kinds_all hP1 hD1 hS1 (lv_sub hl [3, 4, 5, 6, 0, 2, 7, 1] rfl)
          · replace hF := ifn (fun h9 => h9 c9) hF
            refine lv_iconst (v := 1) hx hb d_MM_colonOf_75 (by decide) ?_
            refine lv_goto (tgt := 80) hx hb d_MM_colonOf_76 (by decide) ?_
            exact ih2 l3 (l4 + 1) (l5 + Int32.ofInt 1) l6 o1 1   _ _ _ hF q_h0_kinds q_h0_kinds_all hP1 hD1 hS1 (lv_sub hl [3, 4, 5, 6, 0, 2, 7, 1] rfl)
set_option maxHeartbeats 4000000 in
set_option maxRecDepth 100000 in
theorem b_MM_colonOf_2 {p : Program} {l : Launch} {e : Env} {s : State} {m : MethodId} {args : Array Value} {below : List Frame} {meth : Method} {c : Code} {D : va_G} {tA : Nat → ClassId} {A : Nat → Prop} {h0 h0_kinds h0_kinds_all : Nat} {f0_h0 f0_h0_kinds : List Value} {h0_kinds_all_n : Nat} {l1 : Int32} {l2 : Int32} {h0_kinds_all_c : Nat → Int32} {out : Int32} (hx : p.tables.exec = Jvm.exec) (hb : c.code = prog_15_method_37_code) (hr : meth.sig.returnType = (Option.some Jvm.ClassFile.FieldType.int)) (hml : c.maxLocals = 8) (hh : zH s) (hg : ∀ w ∈ lw_R, w.before args s = true) (hown : s.vm.findClass "ChanceArenaModel" = some m.cls) (hlocks : meth.locks = false) (hK : va_K D vwCl (zT tA) s) (hA : ∀ q, s.heap.size ≤ q → A q) {n : Nat} (ih1 : ∀ (l3 : Int32) (l4 : Int32) (l5 : Int32) (l6 : Int32) (l7 : Int32) (k0 : Int32) (H : Heap) (locs : List Loc) (ls : Array Slot), f_MM_colonOf h0_kinds_all_n l1 l2 h0_kinds_all_c n 1 l3 l4 l5 l6 l7 k0 = some out → f0_h0[3]? = some (.ref h0_kinds) → f0_h0_kinds[0]? = some (.ref h0_kinds_all) → va_P D vwCl [(h0, .inr (13, f0_h0)), (h0_kinds, .inr (14, f0_h0_kinds)), (h0_kinds_all, .inl (tA 0, h0_kinds_all_n, .inl h0_kinds_all_c))] H → va_D A [(h0, .inr (13, f0_h0)), (h0_kinds, .inr (14, f0_h0_kinds)), (h0_kinds_all, .inl (tA 0, h0_kinds_all_n, .inl h0_kinds_all_c))] → va_S A s.heap H locs → lv_has ls 8 [(0, .ref h0), (1, .int l1), (2, .int l2), (3, .int l3), (4, .int l4), (5, .int l5), (6, .int l6)] → W p l e { frames := 2, cells := 0, slots := 0, locals := 42 } s m args below meth c H locs 0 0 (MQ below (va_Qi (fun (r9 : Int32) (u9 : Unit) => r9 = out) (zPost D A (fun (u9 : Unit) => [(h0, .inr (13, f0_h0)), (h0_kinds, .inr (14, f0_h0_kinds)), (h0_kinds_all, .inl (tA 0, h0_kinds_all_n, .inl h0_kinds_all_c))])) A) args s 0 0 A) (F0 m 11 ls [])) : ∀ (l3 : Int32) (l4 : Int32) (l5 : Int32) (l6 : Int32) (l7 : Int32) (k0 : Int32) (H : Heap) (locs : List Loc) (ls : Array Slot), f_MM_colonOf h0_kinds_all_n l1 l2 h0_kinds_all_c (n + 1) 2 l3 l4 l5 l6 l7 k0 = some out → f0_h0[3]? = some (.ref h0_kinds) → f0_h0_kinds[0]? = some (.ref h0_kinds_all) → va_P D vwCl [(h0, .inr (13, f0_h0)), (h0_kinds, .inr (14, f0_h0_kinds)), (h0_kinds_all, .inl (tA 0, h0_kinds_all_n, .inl h0_kinds_all_c))] H → va_D A [(h0, .inr (13, f0_h0)), (h0_kinds, .inr (14, f0_h0_kinds)), (h0_kinds_all, .inl (tA 0, h0_kinds_all_n, .inl h0_kinds_all_c))] → va_S A s.heap H locs → lv_has ls 8 [(0, .ref h0), (1, .int l1), (2, .int l2), (3, .int l3), (4, .int l4), (5, .int l5), (6, .int l6), (7, .int l7)] → W p l e { frames := 2, cells := 0, slots := 0, locals := 42 } s m args below meth c H locs 0 0 (MQ below (va_Qi (fun (r9 : Int32) (u9 : Unit) => r9 = out) (zPost D A (fun (u9 : Unit) => [(h0, .inr (13, f0_h0)), (h0_kinds, .inr (14, f0_h0_kinds)), (h0_kinds_all, .inl (tA 0, h0_kinds_all_n, .inl h0_kinds_all_c))])) A) args s 0 0 A) (F0 m 80 ls [.int k0]) := by
  intro l3 l4 l5 l6 l7 k0   H locs ls hF q_h0_kinds q_h0_kinds_all hP hD hS hl
  rw [e_MM_colonOf_2] at hF
  refine lv_istore (lv' := [(6, .int k0), (0, .ref h0), (1, .int l1), (2, .int l2), (3, .int l3), (4, .int l4), (5, .int l5), (7, .int l7)]) hx hb d_MM_colonOf_80 hl (by decide) rfl (fun ls hl => ?_)
  refine lv_iload hx hb d_MM_colonOf_82 (lv_at hl 5 rfl) ?_
  refine lv_if_le (tgt := 91) hx hb d_MM_colonOf_84 (by decide) (fun c9 => ?_) (fun c9 => ?_)
  · replace hF := ifp c9 hF
    refine lv_iload hx hb d_MM_colonOf_91 (lv_at hl 7 rfl) ?_
    refine lv_bipush (v := 32) hx hb d_MM_colonOf_93 (by decide) ?_
    refine lv_icmp_ne (tgt := 104) hx hb d_MM_colonOf_95 (by decide) (fun c9 => ?_) (fun c9 => ?_)
    · replace hF := ifp c9 hF
      refine lv_iload hx hb d_MM_colonOf_104 (lv_at hl 7 rfl) ?_
      refine lv_bipush (v := 33) hx hb d_MM_colonOf_106 (by decide) ?_
      refine lv_icmp_ne (tgt := 117) hx hb d_MM_colonOf_108 (by decide) (fun c9 => ?_) (fun c9 => ?_)
      · replace hF := ifp c9 hF
        refine lv_iload_n hx hb d_MM_colonOf_117 rfl (lv_at hl 4 rfl) ?_
        refine lv_istore_n (lv' := [(3, .int l3), (6, .int k0), (0, .ref h0), (1, .int l1), (2, .int l2), (4, .int l4), (5, .int l5), (7, .int l7)]) hx hb d_MM_colonOf_118 rfl hl (by decide) rfl (fun ls hl => ?_)
        refine lv_goto (tgt := 11) hx hb d_MM_colonOf_119 (by decide) ?_
        exact ih1 l3 l4 l5 k0 0 0   _ _ _ hF q_h0_kinds q_h0_kinds_all hP hD hS (lv_sub hl [2, 3, 4, 0, 5, 6, 1] rfl)
      · replace hF := ifn (fun h9 => h9 c9) hF
        refine lv_iload_n hx hb d_MM_colonOf_111 rfl (lv_at hl 4 rfl) ?_
        refine lv_iconst (v := 1) hx hb d_MM_colonOf_112 (by decide) ?_
        refine lv_isub hx hb d_MM_colonOf_113 ?_
        refine lv_goto (tgt := 118) hx hb d_MM_colonOf_114 (by decide) ?_
        refine lv_istore_n (lv' := [(3, .int (l3 - 1)), (6, .int k0), (0, .ref h0), (1, .int l1), (2, .int l2), (4, .int l4), (5, .int l5), (7, .int l7)]) hx hb d_MM_colonOf_118 rfl hl (by decide) rfl (fun ls hl => ?_)
        refine lv_goto (tgt := 11) hx hb d_MM_colonOf_119 (by decide) ?_
        exact ih1 (l3 - 1) l4 l5 k0 0 0   _ _ _ hF q_h0_kinds q_h0_kinds_all hP hD hS (lv_sub hl [2, 3, 4, 0, 5, 6, 1] rfl)
    · replace hF := ifn (fun h9 => h9 c9) hF
      refine lv_iload_n hx hb d_MM_colonOf_98 rfl (lv_at hl 4 rfl) ?_
      refine lv_iconst (v := 1) hx hb d_MM_colonOf_99 (by decide) ?_
      refine lv_iadd hx hb d_MM_colonOf_100 ?_
      refine lv_goto (tgt := 118) hx hb d_MM_colonOf_101 (by decide) ?_
      refine lv_istore_n (lv' := [(3, .int (l3 + 1)), (6, .int k0), (0, .ref h0), (1, .int l1), (2, .int l2), (4, .int l4), (5, .int l5), (7, .int l7)]) hx hb d_MM_colonOf_118 rfl hl (by decide) rfl (fun ls hl => ?_)
      refine lv_goto (tgt := 11) hx hb d_MM_colonOf_119 (by decide) ?_
      exact ih1 (l3 + 1) l4 l5 k0 0 0   _ _ _ hF q_h0_kinds q_h0_kinds_all hP hD hS (lv_sub hl [2, 3, 4, 0, 5, 6, 1] rfl)
  · replace hF := ifn c9 hF
    refine lv_iload_n hx hb d_MM_colonOf_87 rfl (lv_at hl 4 rfl) ?_
    refine lv_goto (tgt := 118) hx hb d_MM_colonOf_88 (by decide) ?_
    refine lv_istore_n (lv' := [(3, .int l3), (6, .int k0), (0, .ref h0), (1, .int l1), (2, .int l2), (4, .int l4), (5, .int l5), (7, .int l7)]) hx hb d_MM_colonOf_118 rfl hl (by decide) rfl (fun ls hl => ?_)
    refine lv_goto (tgt := 11) hx hb d_MM_colonOf_119 (by decide) ?_
    exact ih1 l3 l4 l5 k0 0 0   _ _ _ hF q_h0_kinds q_h0_kinds_all hP hD hS (lv_sub hl [2, 3, 4, 0, 5, 6, 1] rfl)
set_option maxHeartbeats 4000000 in
set_option maxRecDepth 100000 in
theorem a_MM_colonOf {p : Program} {l : Launch} {e : Env} {s : State} {m : MethodId} {args : Array Value} {below : List Frame} {meth : Method} {c : Code} {D : va_G} {tA : Nat → ClassId} {A : Nat → Prop} {h0 h0_kinds h0_kinds_all : Nat} {f0_h0 f0_h0_kinds : List Value} {h0_kinds_all_n : Nat} {l1 : Int32} {l2 : Int32} {h0_kinds_all_c : Nat → Int32} {out : Int32} (hx : p.tables.exec = Jvm.exec) (hb : c.code = prog_15_method_37_code) (hr : meth.sig.returnType = (Option.some Jvm.ClassFile.FieldType.int)) (hml : c.maxLocals = 8) (hh : zH s) (hg : ∀ w ∈ lw_R, w.before args s = true) (hown : s.vm.findClass "ChanceArenaModel" = some m.cls) (hlocks : meth.locks = false) (hK : va_K D vwCl (zT tA) s) (hA : ∀ q, s.heap.size ≤ q → A q) : ∀ n : Nat, (∀ (l3 : Int32) (l4 : Int32) (l5 : Int32) (l6 : Int32) (l7 : Int32) (k0 : Int32) (H : Heap) (locs : List Loc) (ls : Array Slot), f_MM_colonOf h0_kinds_all_n l1 l2 h0_kinds_all_c n 0 l3 l4 l5 l6 l7 k0 = some out → f0_h0[3]? = some (.ref h0_kinds) → f0_h0_kinds[0]? = some (.ref h0_kinds_all) → va_P D vwCl [(h0, .inr (13, f0_h0)), (h0_kinds, .inr (14, f0_h0_kinds)), (h0_kinds_all, .inl (tA 0, h0_kinds_all_n, .inl h0_kinds_all_c))] H → va_D A [(h0, .inr (13, f0_h0)), (h0_kinds, .inr (14, f0_h0_kinds)), (h0_kinds_all, .inl (tA 0, h0_kinds_all_n, .inl h0_kinds_all_c))] → va_S A s.heap H locs → lv_has ls 8 [(0, .ref h0), (1, .int l1), (2, .int l2)] → W p l e { frames := 2, cells := 0, slots := 0, locals := 42 } s m args below meth c H locs 0 0 (MQ below (va_Qi (fun (r9 : Int32) (u9 : Unit) => r9 = out) (zPost D A (fun (u9 : Unit) => [(h0, .inr (13, f0_h0)), (h0_kinds, .inr (14, f0_h0_kinds)), (h0_kinds_all, .inl (tA 0, h0_kinds_all_n, .inl h0_kinds_all_c))])) A) args s 0 0 A) (F0 m 0 ls [])) ∧ (∀ (l3 : Int32) (l4 : Int32) (l5 : Int32) (l6 : Int32) (l7 : Int32) (k0 : Int32) (H : Heap) (locs : List Loc) (ls : Array Slot), f_MM_colonOf h0_kinds_all_n l1 l2 h0_kinds_all_c n 1 l3 l4 l5 l6 l7 k0 = some out → f0_h0[3]? = some (.ref h0_kinds) → f0_h0_kinds[0]? = some (.ref h0_kinds_all) → va_P D vwCl [(h0, .inr (13, f0_h0)), (h0_kinds, .inr (14, f0_h0_kinds)), (h0_kinds_all, .inl (tA 0, h0_kinds_all_n, .inl h0_kinds_all_c))] H → va_D A [(h0, .inr (13, f0_h0)), (h0_kinds, .inr (14, f0_h0_kinds)), (h0_kinds_all, .inl (tA 0, h0_kinds_all_n, .inl h0_kinds_all_c))] → va_S A s.heap H locs → lv_has ls 8 [(0, .ref h0), (1, .int l1), (2, .int l2), (3, .int l3), (4, .int l4), (5, .int l5), (6, .int l6)] → W p l e { frames := 2, cells := 0, slots := 0, locals := 42 } s m args below meth c H locs 0 0 (MQ below (va_Qi (fun (r9 : Int32) (u9 : Unit) => r9 = out) (zPost D A (fun (u9 : Unit) => [(h0, .inr (13, f0_h0)), (h0_kinds, .inr (14, f0_h0_kinds)), (h0_kinds_all, .inl (tA 0, h0_kinds_all_n, .inl h0_kinds_all_c))])) A) args s 0 0 A) (F0 m 11 ls [])) ∧ (∀ (l3 : Int32) (l4 : Int32) (l5 : Int32) (l6 : Int32) (l7 : Int32) (k0 : Int32) (H : Heap) (locs : List Loc) (ls : Array Slot), f_MM_colonOf h0_kinds_all_n l1 l2 h0_kinds_all_c n 2 l3 l4 l5 l6 l7 k0 = some out → f0_h0[3]? = some (.ref h0_kinds) → f0_h0_kinds[0]? = some (.ref h0_kinds_all) → va_P D vwCl [(h0, .inr (13, f0_h0)), (h0_kinds, .inr (14, f0_h0_kinds)), (h0_kinds_all, .inl (tA 0, h0_kinds_all_n, .inl h0_kinds_all_c))] H → va_D A [(h0, .inr (13, f0_h0)), (h0_kinds, .inr (14, f0_h0_kinds)), (h0_kinds_all, .inl (tA 0, h0_kinds_all_n, .inl h0_kinds_all_c))] → va_S A s.heap H locs → lv_has ls 8 [(0, .ref h0), (1, .int l1), (2, .int l2), (3, .int l3), (4, .int l4), (5, .int l5), (6, .int l6), (7, .int l7)] → W p l e { frames := 2, cells := 0, slots := 0, locals := 42 } s m args below meth c H locs 0 0 (MQ below (va_Qi (fun (r9 : Int32) (u9 : Unit) => r9 = out) (zPost D A (fun (u9 : Unit) => [(h0, .inr (13, f0_h0)), (h0_kinds, .inr (14, f0_h0_kinds)), (h0_kinds_all, .inl (tA 0, h0_kinds_all_n, .inl h0_kinds_all_c))])) A) args s 0 0 A) (F0 m 80 ls [.int k0])) := by
  intro n
  induction n with
  | zero => exact ⟨(fun _ _ _ _ _ _ _ _ _ hF => by rw [z_MM_colonOf] at hF; cases hF), (fun _ _ _ _ _ _ _ _ _ hF => by rw [z_MM_colonOf] at hF; cases hF), (fun _ _ _ _ _ _ _ _ _ hF => by rw [z_MM_colonOf] at hF; cases hF)⟩
  | succ n ih =>
    obtain ⟨i0, i1, i2⟩ := ih
    exact ⟨b_MM_colonOf_0 hx hb hr hml hh hg hown hlocks hK hA i1, b_MM_colonOf_1 hx hb hr hml hh hg hown hlocks hK hA i2, b_MM_colonOf_2 hx hb hr hml hh hg hown hlocks hK hA i1⟩
set_option maxHeartbeats 4000000 in
set_option maxRecDepth 100000 in
theorem m_MM_colonOf (l : Launch) (D : va_G) (tA : Nat → ClassId) (sz : Nat) (h0 h0_kinds h0_kinds_all : Nat) (f0_h0 f0_h0_kinds : List Value) (h0_kinds_all_n : Nat) (l1 : Int32) (l2 : Int32) (h0_kinds_all_c : Nat → Int32) (q_h0_kinds : f0_h0[3]? = some (.ref h0_kinds)) (q_h0_kinds_all : f0_h0_kinds[0]? = some (.ref h0_kinds_all)) (n : Nat) (out : Int32) (hF : f_MM_colonOf h0_kinds_all_n l1 l2 h0_kinds_all_c n 0 0 0 0 0 0 0 = some out) : zMi l ({ cls := "ChanceArenaModel", name := "colonOf", desc := "(II)I" } : Jvm.MethodName) (zW (Jvm.Cond.code ({ cls := "ChanceArenaModel", name := "colonOf", desc := "(II)I" } : Jvm.MethodName) prog_15_method_37_code (8 : Nat) (Option.some Jvm.ClassFile.FieldType.int))) { frames := 2, cells := 0, slots := 0, locals := 42 } [.ref h0, .int l1, .int l2] D tA [(h0, .inr (13, f0_h0)), (h0_kinds, .inr (14, f0_h0_kinds)), (h0_kinds_all, .inl (tA 0, h0_kinds_all_n, .inl h0_kinds_all_c))] sz (fun (r9 : Int32) (u9 : Unit) => r9 = out) (fun (u9 : Unit) => [(h0, .inr (13, f0_h0)), (h0_kinds, .inr (14, f0_h0_kinds)), (h0_kinds_all, .inl (tA 0, h0_kinds_all_n, .inl h0_kinds_all_c))]) 0 0 := by
  refine zOpen (l := l) (y := ({ cls := "ChanceArenaModel", name := "colonOf", desc := "(II)I" } : Jvm.MethodName)) (ws := zW (Jvm.Cond.code ({ cls := "ChanceArenaModel", name := "colonOf", desc := "(II)I" } : Jvm.MethodName) prog_15_method_37_code (8 : Nat) (Option.some Jvm.ClassFile.FieldType.int))) (rm := { frames := 2, cells := 0, slots := 0, locals := 42 }) (av := [.ref h0, .int l1, .int l2]) (D := D) (tA := tA) (W0 := [(h0, .inr (13, f0_h0)), (h0_kinds, .inr (14, f0_h0_kinds)), (h0_kinds_all, .inl (tA 0, h0_kinds_all_n, .inl h0_kinds_all_c))]) (Wm := [(h0, .inr (13, f0_h0)), (h0_kinds, .inr (14, f0_h0_kinds)), (h0_kinds_all, .inl (tA 0, h0_kinds_all_n, .inl h0_kinds_all_c))]) (sz := sz) (mc := 0) (ms := 0) (fun A => va_Qi (fun (r9 : Int32) (u9 : Unit) => r9 = out) (zPost D A (fun (u9 : Unit) => [(h0, .inr (13, f0_h0)), (h0_kinds, .inr (14, f0_h0_kinds)), (h0_kinds_all, .inl (tA 0, h0_kinds_all_n, .inl h0_kinds_all_c))])) A) (lv := [(0, .ref h0), (1, .int l1), (2, .int l2)]) (by decide) rfl (Nat.le_of_ble_eq_true rfl) rfl ?_
  intro p e s m below meth c A ls hx hb hr hml hh hg hown hlocks hnm hK hA hP hD0 hAw hS hl
  have hD := zD hD0 hAw
  exact (a_MM_colonOf hx hb hr hml hh hg hown hlocks hK hA n).1 0 0 0 0 0 0   _ _ _ hF q_h0_kinds q_h0_kinds_all hP hD hS hl
