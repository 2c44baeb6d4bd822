theorem k8_212 : (Jvm.Cond.fieldLinkNest "ChanceArenaModel" (293 : Nat) "ChanceArenaModel$Numbers" "all" "[I" "ChanceArenaModel") ∈ lw_R := zR (zk_8 _ (List.mem_of_getElem? (i := 212) (by decide +kernel))) rfl
theorem k8_238 : (Jvm.Cond.fieldLinkNest "ChanceArenaModel" (287 : Nat) "ChanceArenaModel$Game" "firstPart" "LChanceArenaModel$Numbers;" "ChanceArenaModel") ∈ lw_R := zR (zk_8 _ (List.mem_of_getElem? (i := 238) (by decide +kernel))) rfl
theorem k9_0 : (Jvm.Cond.fieldLinkNest "ChanceArenaModel" (290 : Nat) "ChanceArenaModel$Game" "nextPart" "LChanceArenaModel$Numbers;" "ChanceArenaModel") ∈ lw_R := zR (zk_9 _ (List.mem_of_getElem? (i := 0) (by decide +kernel))) rfl
theorem k11_74 : (Jvm.Cond.methodLink "ChanceArenaModel" (261 : Nat) ({ cls := "ChanceArenaModel", name := "isComparison", desc := "(I)Z" } : Jvm.MethodName)) ∈ lw_R := zR (zk_11 _ (List.mem_of_getElem? (i := 74) (by decide +kernel))) rfl
theorem k11_75 : (Jvm.Cond.static ({ cls := "ChanceArenaModel", name := "isComparison", desc := "(I)Z" } : Jvm.MethodName)) ∈ lw_R := zR (zk_11 _ (List.mem_of_getElem? (i := 75) (by decide +kernel))) rfl
theorem k11_136 : (Jvm.Cond.code ({ cls := "ChanceArenaModel", name := "looseness", desc := "(II)I" } : Jvm.MethodName) prog_15_method_35_code (4 : Nat) (Option.some Jvm.ClassFile.FieldType.int)) ∈ lw_R := zR (zk_11 _ (List.mem_of_getElem? (i := 136) (by decide +kernel))) rfl
theorem k11_137 : (Jvm.Cond.methodLink "ChanceArenaModel" (304 : Nat) ({ cls := "ChanceArenaModel", name := "isOperand", desc := "(I)Z" } : Jvm.MethodName)) ∈ lw_R := zR (zk_11 _ (List.mem_of_getElem? (i := 137) (by decide +kernel))) rfl
theorem k11_139 : (Jvm.Cond.instanceMethod ({ cls := "ChanceArenaModel", name := "isOperand", desc := "(I)Z" } : Jvm.MethodName)) ∈ lw_R := zR (zk_11 _ (List.mem_of_getElem? (i := 139) (by decide +kernel))) rfl
theorem k11_140 : (Jvm.Cond.code ({ cls := "ChanceArenaModel", name := "isOperand", desc := "(I)Z" } : Jvm.MethodName) prog_15_method_34_code (2 : Nat) (Option.some Jvm.ClassFile.FieldType.boolean)) ∈ lw_R := zR (zk_11 _ (List.mem_of_getElem? (i := 140) (by decide +kernel))) rfl
theorem k11_148 : (Jvm.Cond.code ({ cls := "ChanceArenaModel", name := "join", desc := "(II)V" } : Jvm.MethodName) prog_15_method_31_code (4 : Nat) (Option.none : Option Jvm.ClassFile.FieldType)) ∈ lw_R := zR (zk_11 _ (List.mem_of_getElem? (i := 148) (by decide +kernel))) rfl
theorem d_MM_join_0 : decode prog_15_method_31_code 0 = .ok (.iload_n 1, 1) := by decide +kernel
theorem d_MM_join_1 : decode prog_15_method_31_code 1 = .ok (.ifCond .ge 4, 3) := by decide +kernel
theorem d_MM_join_5 : decode prog_15_method_31_code 5 = .ok (.aload_n 0, 1) := by decide +kernel
theorem d_MM_join_6 : decode prog_15_method_31_code 6 = .ok (.getfield 38, 3) := by decide +kernel
theorem d_MM_join_9 : decode prog_15_method_31_code 9 = .ok (.getfield 287, 3) := by decide +kernel
theorem d_MM_join_12 : decode prog_15_method_31_code 12 = .ok (.iload_n 1, 1) := by decide +kernel
theorem d_MM_join_13 : decode prog_15_method_31_code 13 = .ok (.invokevirtual 155, 3) := by decide +kernel
theorem d_MM_join_16 : decode prog_15_method_31_code 16 = .ok (.ifCond .ge 17, 3) := by decide +kernel
theorem d_MM_join_33 : decode prog_15_method_31_code 33 = .ok (.aload_n 0, 1) := by decide +kernel
theorem d_MM_join_34 : decode prog_15_method_31_code 34 = .ok (.getfield 38, 3) := by decide +kernel
theorem d_MM_join_37 : decode prog_15_method_31_code 37 = .ok (.getfield 287, 3) := by decide +kernel
theorem d_MM_join_40 : decode prog_15_method_31_code 40 = .ok (.iload_n 1, 1) := by decide +kernel
theorem d_MM_join_41 : decode prog_15_method_31_code 41 = .ok (.invokevirtual 155, 3) := by decide +kernel
theorem d_MM_join_44 : decode prog_15_method_31_code 44 = .ok (.istore_n 3, 1) := by decide +kernel
theorem d_MM_join_19 : decode prog_15_method_31_code 19 = .ok (.aload_n 0, 1) := by decide +kernel
theorem d_MM_join_20 : decode prog_15_method_31_code 20 = .ok (.getfield 38, 3) := by decide +kernel
theorem d_MM_join_23 : decode prog_15_method_31_code 23 = .ok (.getfield 287, 3) := by decide +kernel
theorem d_MM_join_26 : decode prog_15_method_31_code 26 = .ok (.getfield 293, 3) := by decide +kernel
theorem d_MM_join_29 : decode prog_15_method_31_code 29 = .ok (.iload_n 1, 1) := by decide +kernel
theorem d_MM_join_30 : decode prog_15_method_31_code 30 = .ok (.iload_n 2, 1) := by decide +kernel
theorem d_MM_join_31 : decode prog_15_method_31_code 31 = .ok (.iastore, 1) := by decide +kernel
theorem d_MM_join_32 : decode prog_15_method_31_code 32 = .ok (.return_, 1) := by decide +kernel
theorem d_MM_join_4 : decode prog_15_method_31_code 4 = .ok (.return_, 1) := by decide +kernel
theorem d_MM_join_45 : decode prog_15_method_31_code 45 = .ok (.aload_n 0, 1) := by decide +kernel
theorem d_MM_join_46 : decode prog_15_method_31_code 46 = .ok (.getfield 38, 3) := by decide +kernel
theorem d_MM_join_49 : decode prog_15_method_31_code 49 = .ok (.getfield 290, 3) := by decide +kernel
theorem d_MM_join_52 : decode prog_15_method_31_code 52 = .ok (.iload_n 3, 1) := by decide +kernel
theorem d_MM_join_53 : decode prog_15_method_31_code 53 = .ok (.invokevirtual 155, 3) := by decide +kernel
theorem d_MM_join_56 : decode prog_15_method_31_code 56 = .ok (.ifCond .lt 18, 3) := by decide +kernel
theorem d_MM_join_74 : decode prog_15_method_31_code 74 = .ok (.aload_n 0, 1) := by decide +kernel
theorem d_MM_join_75 : decode prog_15_method_31_code 75 = .ok (.getfield 38, 3) := by decide +kernel
theorem d_MM_join_78 : decode prog_15_method_31_code 78 = .ok (.getfield 290, 3) := by decide +kernel
theorem d_MM_join_81 : decode prog_15_method_31_code 81 = .ok (.getfield 293, 3) := by decide +kernel
theorem d_MM_join_84 : decode prog_15_method_31_code 84 = .ok (.iload_n 3, 1) := by decide +kernel
theorem d_MM_join_85 : decode prog_15_method_31_code 85 = .ok (.iload_n 2, 1) := by decide +kernel
theorem d_MM_join_86 : decode prog_15_method_31_code 86 = .ok (.iastore, 1) := by decide +kernel
theorem d_MM_join_87 : decode prog_15_method_31_code 87 = .ok (.return_, 1) := by decide +kernel
theorem d_MM_join_59 : decode prog_15_method_31_code 59 = .ok (.aload_n 0, 1) := by decide +kernel
theorem d_MM_join_60 : decode prog_15_method_31_code 60 = .ok (.getfield 38, 3) := by decide +kernel
theorem d_MM_join_63 : decode prog_15_method_31_code 63 = .ok (.getfield 290, 3) := by decide +kernel
theorem d_MM_join_66 : decode prog_15_method_31_code 66 = .ok (.iload_n 3, 1) := by decide +kernel
theorem d_MM_join_67 : decode prog_15_method_31_code 67 = .ok (.invokevirtual 155, 3) := by decide +kernel
theorem d_MM_join_70 : decode prog_15_method_31_code 70 = .ok (.istore_n 3, 1) := by decide +kernel
theorem d_MM_join_71 : decode prog_15_method_31_code 71 = .ok (.goto (-26), 3) := by decide +kernel
theorem d_MM_isOperand_0 : decode prog_15_method_34_code 0 = .ok (.aload_n 0, 1) := by decide +kernel
theorem d_MM_isOperand_1 : decode prog_15_method_34_code 1 = .ok (.iload_n 1, 1) := by decide +kernel
theorem d_MM_isOperand_2 : decode prog_15_method_34_code 2 = .ok (.invokevirtual 302, 3) := by decide +kernel
theorem d_MM_isOperand_5 : decode prog_15_method_34_code 5 = .ok (.iconst 2, 1) := by decide +kernel
theorem d_MM_isOperand_6 : decode prog_15_method_34_code 6 = .ok (.if_icmp .eq 42, 3) := by decide +kernel
theorem d_MM_isOperand_48 : decode prog_15_method_34_code 48 = .ok (.iconst 1, 1) := by decide +kernel
theorem d_MM_isOperand_49 : decode prog_15_method_34_code 49 = .ok (.goto 4, 3) := by decide +kernel
theorem d_MM_isOperand_53 : decode prog_15_method_34_code 53 = .ok (.ireturn, 1) := by decide +kernel
theorem d_MM_isOperand_9 : decode prog_15_method_34_code 9 = .ok (.aload_n 0, 1) := by decide +kernel
theorem d_MM_isOperand_10 : decode prog_15_method_34_code 10 = .ok (.iload_n 1, 1) := by decide +kernel
theorem d_MM_isOperand_11 : decode prog_15_method_34_code 11 = .ok (.invokevirtual 302, 3) := by decide +kernel
theorem d_MM_isOperand_14 : decode prog_15_method_34_code 14 = .ok (.iconst 1, 1) := by decide +kernel
theorem d_MM_isOperand_15 : decode prog_15_method_34_code 15 = .ok (.if_icmp .eq 33, 3) := by decide +kernel
theorem d_MM_isOperand_18 : decode prog_15_method_34_code 18 = .ok (.aload_n 0, 1) := by decide +kernel
theorem d_MM_isOperand_19 : decode prog_15_method_34_code 19 = .ok (.iload_n 1, 1) := by decide +kernel
theorem d_MM_isOperand_20 : decode prog_15_method_34_code 20 = .ok (.invokevirtual 302, 3) := by decide +kernel
theorem d_MM_isOperand_23 : decode prog_15_method_34_code 23 = .ok (.bipush 12, 2) := by decide +kernel
theorem d_MM_isOperand_25 : decode prog_15_method_34_code 25 = .ok (.if_icmp .eq 23, 3) := by decide +kernel
theorem d_MM_isOperand_28 : decode prog_15_method_34_code 28 = .ok (.aload_n 0, 1) := by decide +kernel
theorem d_MM_isOperand_29 : decode prog_15_method_34_code 29 = .ok (.iload_n 1, 1) := by decide +kernel
theorem d_MM_isOperand_30 : decode prog_15_method_34_code 30 = .ok (.invokevirtual 302, 3) := by decide +kernel
theorem d_MM_isOperand_33 : decode prog_15_method_34_code 33 = .ok (.bipush 13, 2) := by decide +kernel
theorem d_MM_isOperand_35 : decode prog_15_method_34_code 35 = .ok (.if_icmp .eq 13, 3) := by decide +kernel
theorem d_MM_isOperand_38 : decode prog_15_method_34_code 38 = .ok (.aload_n 0, 1) := by decide +kernel
theorem d_MM_isOperand_39 : decode prog_15_method_34_code 39 = .ok (.iload_n 1, 1) := by decide +kernel
theorem d_MM_isOperand_40 : decode prog_15_method_34_code 40 = .ok (.invokevirtual 302, 3) := by decide +kernel
theorem d_MM_isOperand_43 : decode prog_15_method_34_code 43 = .ok (.bipush 37, 2) := by decide +kernel
theorem d_MM_isOperand_45 : decode prog_15_method_34_code 45 = .ok (.if_icmp .ne 7, 3) := by decide +kernel
theorem d_MM_isOperand_52 : decode prog_15_method_34_code 52 = .ok (.iconst 0, 1) := by decide +kernel
theorem d_MM_looseness_0 : decode prog_15_method_35_code 0 = .ok (.aload_n 0, 1) := by decide +kernel
theorem d_MM_looseness_1 : decode prog_15_method_35_code 1 = .ok (.iload_n 1, 1) := by decide +kernel
theorem d_MM_looseness_2 : decode prog_15_method_35_code 2 = .ok (.invokevirtual 302, 3) := by decide +kernel
theorem d_MM_looseness_5 : decode prog_15_method_35_code 5 = .ok (.istore_n 3, 1) := by decide +kernel
theorem d_MM_looseness_6 : decode prog_15_method_35_code 6 = .ok (.iload_n 3, 1) := by decide +kernel
theorem d_MM_looseness_7 : decode prog_15_method_35_code 7 = .ok (.bipush 32, 2) := by decide +kernel
theorem d_MM_looseness_9 : decode prog_15_method_35_code 9 = .ok (.if_icmp .ne 6, 3) := by decide +kernel
theorem d_MM_looseness_15 : decode prog_15_method_35_code 15 = .ok (.iload_n 3, 1) := by decide +kernel
theorem d_MM_looseness_16 : decode prog_15_method_35_code 16 = .ok (.bipush 30, 2) := by decide +kernel
theorem d_MM_looseness_18 : decode prog_15_method_35_code 18 = .ok (.if_icmp .eq 9, 3) := by decide +kernel
theorem d_MM_looseness_27 : decode prog_15_method_35_code 27 = .ok (.iload_n 3, 1) := by decide +kernel
theorem d_MM_looseness_28 : decode prog_15_method_35_code 28 = .ok (.bipush 30, 2) := by decide +kernel
theorem d_MM_looseness_30 : decode prog_15_method_35_code 30 = .ok (.if_icmp .ne 7, 3) := by decide +kernel
theorem d_MM_looseness_37 : decode prog_15_method_35_code 37 = .ok (.iconst 4, 1) := by decide +kernel
theorem d_MM_looseness_38 : decode prog_15_method_35_code 38 = .ok (.ireturn, 1) := by decide +kernel
theorem d_MM_looseness_33 : decode prog_15_method_35_code 33 = .ok (.iconst 5, 1) := by decide +kernel
theorem d_MM_looseness_34 : decode prog_15_method_35_code 34 = .ok (.goto 4, 3) := by decide +kernel
theorem d_MM_looseness_21 : decode prog_15_method_35_code 21 = .ok (.iload_n 3, 1) := by decide +kernel
theorem d_MM_looseness_22 : decode prog_15_method_35_code 22 = .ok (.bipush 29, 2) := by decide +kernel
theorem d_MM_looseness_24 : decode prog_15_method_35_code 24 = .ok (.if_icmp .ne 15, 3) := by decide +kernel
theorem d_MM_looseness_39 : decode prog_15_method_35_code 39 = .ok (.iload_n 3, 1) := by decide +kernel
theorem d_MM_looseness_40 : decode prog_15_method_35_code 40 = .ok (.invokestatic 261, 3) := by decide +kernel
theorem d_MM_looseness_43 : decode prog_15_method_35_code 43 = .ok (.ifCond .eq 5, 3) := by decide +kernel
theorem d_MM_looseness_48 : decode prog_15_method_35_code 48 = .ok (.iload_n 3, 1) := by decide +kernel
theorem d_MM_looseness_49 : decode prog_15_method_35_code 49 = .ok (.bipush 24, 2) := by decide +kernel
theorem d_MM_looseness_51 : decode prog_15_method_35_code 51 = .ok (.if_icmp .eq 9, 3) := by decide +kernel
theorem d_MM_looseness_60 : decode prog_15_method_35_code 60 = .ok (.iload_n 1, 1) := by decide +kernel
theorem d_MM_looseness_61 : decode prog_15_method_35_code 61 = .ok (.iload_n 2, 1) := by decide +kernel
theorem d_MM_looseness_62 : decode prog_15_method_35_code 62 = .ok (.if_icmp .le 17, 3) := by decide +kernel
theorem d_MM_looseness_79 : decode prog_15_method_35_code 79 = .ok (.iconst 0, 1) := by decide +kernel
theorem d_MM_looseness_80 : decode prog_15_method_35_code 80 = .ok (.ireturn, 1) := by decide +kernel
theorem d_MM_looseness_65 : decode prog_15_method_35_code 65 = .ok (.aload_n 0, 1) := by decide +kernel
theorem d_MM_looseness_66 : decode prog_15_method_35_code 66 = .ok (.iload_n 1, 1) := by decide +kernel
theorem d_MM_looseness_67 : decode prog_15_method_35_code 67 = .ok (.iconst 1, 1) := by decide +kernel
theorem d_MM_looseness_68 : decode prog_15_method_35_code 68 = .ok (.isub, 1) := by decide +kernel
theorem d_MM_looseness_69 : decode prog_15_method_35_code 69 = .ok (.invokevirtual 304, 3) := by decide +kernel
theorem ks_MM_isOperand : Cond.selects "ChanceArenaModel" ({ cls := "ChanceArenaModel", name := "isOperand", desc := "(I)Z" } : Jvm.MethodName) ({ cls := "ChanceArenaModel", name := "isOperand", desc := "(I)Z" } : Jvm.MethodName) ∈ lw_R := zR (List.mem_append_left _ (List.mem_of_getElem? (i := 105) (by decide +kernel))) rfl
theorem d_MM_looseness_72 : decode prog_15_method_35_code 72 = .ok (.ifCond .eq 7, 3) := by decide +kernel
theorem d_MM_looseness_75 : decode prog_15_method_35_code 75 = .ok (.iconst 2, 1) := by decide +kernel
theorem d_MM_looseness_76 : decode prog_15_method_35_code 76 = .ok (.goto 4, 3) := by decide +kernel
theorem d_MM_looseness_54 : decode prog_15_method_35_code 54 = .ok (.iload_n 3, 1) := by decide +kernel
theorem d_MM_looseness_55 : decode prog_15_method_35_code 55 = .ok (.bipush 25, 2) := by decide +kernel
theorem d_MM_looseness_57 : decode prog_15_method_35_code 57 = .ok (.if_icmp .ne 24, 3) := by decide +kernel
theorem d_MM_looseness_81 : decode prog_15_method_35_code 81 = .ok (.iload_n 3, 1) := by decide +kernel
theorem d_MM_looseness_82 : decode prog_15_method_35_code 82 = .ok (.bipush 26, 2) := by decide +kernel
theorem d_MM_looseness_84 : decode prog_15_method_35_code 84 = .ok (.if_icmp .eq 15, 3) := by decide +kernel
theorem d_MM_looseness_99 : decode prog_15_method_35_code 99 = .ok (.iconst 1, 1) := by decide +kernel
theorem d_MM_looseness_100 : decode prog_15_method_35_code 100 = .ok (.goto 4, 3) := by decide +kernel
theorem d_MM_looseness_104 : decode prog_15_method_35_code 104 = .ok (.ireturn, 1) := by decide +kernel
theorem d_MM_looseness_87 : decode prog_15_method_35_code 87 = .ok (.iload_n 3, 1) := by decide +kernel
theorem d_MM_looseness_88 : decode prog_15_method_35_code 88 = .ok (.bipush 27, 2) := by decide +kernel
theorem d_MM_looseness_90 : decode prog_15_method_35_code 90 = .ok (.if_icmp .eq 9, 3) := by decide +kernel
theorem d_MM_looseness_93 : decode prog_15_method_35_code 93 = .ok (.iload_n 3, 1) := by decide +kernel
theorem d_MM_looseness_94 : decode prog_15_method_35_code 94 = .ok (.bipush 28, 2) := by decide +kernel
theorem d_MM_looseness_96 : decode prog_15_method_35_code 96 = .ok (.if_icmp .ne 7, 3) := by decide +kernel
theorem d_MM_looseness_103 : decode prog_15_method_35_code 103 = .ok (.iconst 0, 1) := by decide +kernel
theorem d_MM_looseness_46 : decode prog_15_method_35_code 46 = .ok (.iconst 3, 1) := by decide +kernel
theorem d_MM_looseness_47 : decode prog_15_method_35_code 47 = .ok (.ireturn, 1) := by decide +kernel
theorem d_MM_looseness_12 : decode prog_15_method_35_code 12 = .ok (.bipush 6, 2) := by decide +kernel
theorem d_MM_looseness_14 : decode prog_15_method_35_code 14 = .ok (.ireturn, 1) := by decide +kernel
def f_MM_join (h0_draft_firstPart_all_n : Nat) (h0_draft_nextPart_all_n : Nat) (l1 : Int32) (l2 : Int32) : Nat → Nat → (Nat → Int32) → (Nat → Int32) → Int32 → Option ((Nat → Int32) × (Nat → Int32))
  | 0, _, _, _, _ => none
  | n + 1, 0, h0_draft_firstPart_all_c, h0_draft_nextPart_all_c, l3 => if (0 : Int32) ≤ l1 then Option.bind (f_MN_at h0_draft_firstPart_all_n l1 h0_draft_firstPart_all_c) (fun o1 => if (0 : Int32) ≤ o1 then Option.bind (f_MN_at h0_draft_firstPart_all_n l1 h0_draft_firstPart_all_c) (fun o2 => f_MM_join h0_draft_firstPart_all_n h0_draft_nextPart_all_n l1 l2 n 1 h0_draft_firstPart_all_c h0_draft_nextPart_all_c o2) else chk (0 ≤ (l1 : Int32).toInt ∧ (l1 : Int32).toInt < h0_draft_firstPart_all_n) (some (upd h0_draft_firstPart_all_c (l1 : Int32).toNatClampNeg l2, h0_draft_nextPart_all_c))) else some (h0_draft_firstPart_all_c, h0_draft_nextPart_all_c)
  | n + 1, 1, h0_draft_firstPart_all_c, h0_draft_nextPart_all_c, l3 => Option.bind (f_MN_at h0_draft_nextPart_all_n l3 h0_draft_nextPart_all_c) (fun o3 => if (o3 : Int32) < 0 then chk (0 ≤ (l3 : Int32).toInt ∧ (l3 : Int32).toInt < h0_draft_nextPart_all_n) (some (h0_draft_firstPart_all_c, upd h0_draft_nextPart_all_c (l3 : Int32).toNatClampNeg l2)) else Option.bind (f_MN_at h0_draft_nextPart_all_n l3 h0_draft_nextPart_all_c) (fun o4 => f_MM_join h0_draft_firstPart_all_n h0_draft_nextPart_all_n l1 l2 n 1 h0_draft_firstPart_all_c h0_draft_nextPart_all_c o4))
  | _ + 1, _ + 2, _, _, _ => none
theorem e_MM_join_0 (h0_draft_firstPart_all_n : Nat) (h0_draft_nextPart_all_n : Nat) (l1 : Int32) (l2 : Int32) (n : Nat) (h0_draft_firstPart_all_c : Nat → Int32) (h0_draft_nextPart_all_c : Nat → Int32) (l3 : Int32) : f_MM_join h0_draft_firstPart_all_n h0_draft_nextPart_all_n l1 l2 (n + 1) 0 h0_draft_firstPart_all_c h0_draft_nextPart_all_c l3 = if (0 : Int32) ≤ l1 then Option.bind (f_MN_at h0_draft_firstPart_all_n l1 h0_draft_firstPart_all_c) (fun o1 => if (0 : Int32) ≤ o1 then Option.bind (f_MN_at h0_draft_firstPart_all_n l1 h0_draft_firstPart_all_c) (fun o2 => f_MM_join h0_draft_firstPart_all_n h0_draft_nextPart_all_n l1 l2 n 1 h0_draft_firstPart_all_c h0_draft_nextPart_all_c o2) else chk (0 ≤ (l1 : Int32).toInt ∧ (l1 : Int32).toInt < h0_draft_firstPart_all_n) (some (upd h0_draft_firstPart_all_c (l1 : Int32).toNatClampNeg l2, h0_draft_nextPart_all_c))) else some (h0_draft_firstPart_all_c, h0_draft_nextPart_all_c) := by rw [f_MM_join]
theorem e_MM_join_1 (h0_draft_firstPart_all_n : Nat) (h0_draft_nextPart_all_n : Nat) (l1 : Int32) (l2 : Int32) (n : Nat) (h0_draft_firstPart_all_c : Nat → Int32) (h0_draft_nextPart_all_c : Nat → Int32) (l3 : Int32) : f_MM_join h0_draft_firstPart_all_n h0_draft_nextPart_all_n l1 l2 (n + 1) 1 h0_draft_firstPart_all_c h0_draft_nextPart_all_c l3 = Option.bind (f_MN_at h0_draft_nextPart_all_n l3 h0_draft_nextPart_all_c) (fun o3 => if (o3 : Int32) < 0 then chk (0 ≤ (l3 : Int32).toInt ∧ (l3 : Int32).toInt < h0_draft_nextPart_all_n) (some (h0_draft_firstPart_all_c, upd h0_draft_nextPart_all_c (l3 : Int32).toNatClampNeg l2)) else Option.bind (f_MN_at h0_draft_nextPart_all_n l3 h0_draft_nextPart_all_c) (fun o4 => f_MM_join h0_draft_firstPart_all_n h0_draft_nextPart_all_n l1 l2 n 1 h0_draft_firstPart_all_c h0_draft_nextPart_all_c o4)) := by rw [f_MM_join]
theorem z_MM_join (h0_draft_firstPart_all_n : Nat) (h0_draft_nextPart_all_n : Nat) (l1 : Int32) (l2 : Int32) (h : Nat) (h0_draft_firstPart_all_c : Nat → Int32) (h0_draft_nextPart_all_c : Nat → Int32) (l3 : Int32) : f_MM_join h0_draft_firstPart_all_n h0_draft_nextPart_all_n l1 l2 0 h h0_draft_firstPart_all_c h0_draft_nextPart_all_c l3 = none := by rw [f_MM_join]
set_option maxHeartbeats 4000000 in
set_option maxRecDepth 100000 in
theorem b_MM_join_0 {p : Program} {l : Launch} {e : Env} {s : State} {m : MethodId} {args : Array Value} {below : List Frame} {meth : Method} {c : Code} {D : va_G} {tA : Nat → ClassId} {A : Nat → Prop} {h0 h0_draft h0_draft_firstPart h0_draft_firstPart_all h0_draft_nextPart h0_draft_nextPart_all : Nat} {f0_h0 f0_h0_draft f0_h0_draft_firstPart f0_h0_draft_nextPart : List Value} {h0_draft_firstPart_all_n : Nat} {h0_draft_nextPart_all_n : Nat} {l1 : Int32} {l2 : Int32} {out : (Nat → Int32) × (Nat → Int32)} (hx : p.tables.exec = Jvm.exec) (hb : c.code = prog_15_method_31_code) (hr : meth.sig.returnType = (Option.none : Option Jvm.ClassFile.FieldType)) (hml : c.maxLocals = 4) (hh : zH s) (hg : ∀ w ∈ lw_R, w.before args s = true) (hown : s.vm.findClass "ChanceArenaModel" = some m.cls) (hlocks : meth.locks = false) (hK : va_K D vwCl (zT tA) s) (hA : ∀ q, s.heap.size ≤ q → A q) {n : Nat} (ih1 : ∀ (h0_draft_firstPart_all_c : Nat → Int32) (h0_draft_nextPart_all_c : Nat → Int32) (l3 : Int32) (H : Heap) (locs : List Loc) (ls : Array Slot), f_MM_join h0_draft_firstPart_all_n h0_draft_nextPart_all_n l1 l2 n 1 h0_draft_firstPart_all_c h0_draft_nextPart_all_c l3 = some out → f0_h0[10]? = some (.ref h0_draft) → f0_h0_draft[4]? = some (.ref h0_draft_firstPart) → f0_h0_draft[5]? = some (.ref h0_draft_nextPart) → f0_h0_draft_firstPart[0]? = some (.ref h0_draft_firstPart_all) → f0_h0_draft_nextPart[0]? = some (.ref h0_draft_nextPart_all) → va_P D vwCl [(h0, .inr (13, f0_h0)), (h0_draft, .inr (15, f0_h0_draft)), (h0_draft_firstPart, .inr (14, f0_h0_draft_firstPart)), (h0_draft_firstPart_all, .inl (tA 0, h0_draft_firstPart_all_n, .inl h0_draft_firstPart_all_c)), (h0_draft_nextPart, .inr (14, f0_h0_draft_nextPart)), (h0_draft_nextPart_all, .inl (tA 0, h0_draft_nextPart_all_n, .inl h0_draft_nextPart_all_c))] H → va_D A [(h0, .inr (13, f0_h0)), (h0_draft, .inr (15, f0_h0_draft)), (h0_draft_firstPart, .inr (14, f0_h0_draft_firstPart)), (h0_draft_firstPart_all, .inl (tA 0, h0_draft_firstPart_all_n, .inl h0_draft_firstPart_all_c)), (h0_draft_nextPart, .inr (14, f0_h0_draft_nextPart)), (h0_draft_nextPart_all, .inl (tA 0, h0_draft_nextPart_all_n, .inl h0_draft_nextPart_all_c))] → va_S A s.heap H locs → lv_has ls 4 [(0, .ref h0), (1, .int l1), (2, .int l2), (3, .int l3)] → W p l e { frames := 1, cells := 0, slots := 0, locals := 21 } s m args below meth c H locs 0 0 (MQ below (va_Qv (fun (u9 : Unit) => True) (zPost D A (fun (u9 : Unit) => [(h0, .inr (13, f0_h0)), (h0_draft, .inr (15, f0_h0_draft)), (h0_draft_firstPart, .inr (14, f0_h0_draft_firstPart)), (h0_draft_firstPart_all, .inl (tA 0, h0_draft_firstPart_all_n, .inl out.1)), (h0_draft_nextPart, .inr (14, f0_h0_draft_nextPart)), (h0_draft_nextPart_all, .inl (tA 0, h0_draft_nextPart_all_n, .inl out.2))])) A) args s 0 0 A) (F0 m 45 ls [])) : ∀ (h0_draft_firstPart_all_c : Nat → Int32) (h0_draft_nextPart_all_c : Nat → Int32) (l3 : Int32) (H : Heap) (locs : List Loc) (ls : Array Slot), f_MM_join h0_draft_firstPart_all_n h0_draft_nextPart_all_n l1 l2 (n + 1) 0 h0_draft_firstPart_all_c h0_draft_nextPart_all_c l3 = some out → f0_h0[10]? = some (.ref h0_draft) → f0_h0_draft[4]? = some (.ref h0_draft_firstPart) → f0_h0_draft[5]? = some (.ref h0_draft_nextPart) → f0_h0_draft_firstPart[0]? = some (.ref h0_draft_firstPart_all) → f0_h0_draft_nextPart[0]? = some (.ref h0_draft_nextPart_all) → va_P D vwCl [(h0, .inr (13, f0_h0)), (h0_draft, .inr (15, f0_h0_draft)), (h0_draft_firstPart, .inr (14, f0_h0_draft_firstPart)), (h0_draft_firstPart_all, .inl (tA 0, h0_draft_firstPart_all_n, .inl h0_draft_firstPart_all_c)), (h0_draft_nextPart, .inr (14, f0_h0_draft_nextPart)), (h0_draft_nextPart_all, .inl (tA 0, h0_draft_nextPart_all_n, .inl h0_draft_nextPart_all_c))] H → va_D A [(h0, .inr (13, f0_h0)), (h0_draft, .inr (15, f0_h0_draft)), (h0_draft_firstPart, .inr (14, f0_h0_draft_firstPart)), (h0_draft_firstPart_all, .inl (tA 0, h0_draft_firstPart_all_n, .inl h0_draft_firstPart_all_c)), (h0_draft_nextPart, .inr (14, f0_h0_draft_nextPart)), (h0_draft_nextPart_all, .inl (tA 0, h0_draft_nextPart_all_n, .inl h0_draft_nextPart_all_c))] → va_S A s.heap H locs → lv_has ls 4 [(0, .ref h0), (1, .int l1), (2, .int l2)] → W p l e { frames := 1, cells := 0, slots := 0, locals := 21 } s m args below meth c H locs 0 0 (MQ below (va_Qv (fun (u9 : Unit) => True) (zPost D A (fun (u9 : Unit) => [(h0, .inr (13, f0_h0)), (h0_draft, .inr (15, f0_h0_draft)), (h0_draft_firstPart, .inr (14, f0_h0_draft_firstPart)), (h0_draft_firstPart_all, .inl (tA 0, h0_draft_firstPart_all_n, .inl out.1)), (h0_draft_nextPart, .inr (14, f0_h0_draft_nextPart)), (h0_draft_nextPart_all, .inl (tA 0, h0_draft_nextPart_all_n, .inl out.2))])) A) args s 0 0 A) (F0 m 0 ls []) := by
  intro h0_draft_firstPart_all_c h0_draft_nextPart_all_c l3   H locs ls hF q_h0_draft q_h0_draft_firstPart q_h0_draft_nextPart q_h0_draft_firstPart_all q_h0_draft_nextPart_all hP hD hS hl
  rw [e_MM_join_0] at hF
  refine lv_iload_n hx hb d_MM_join_0 rfl (lv_at hl 1 rfl) ?_
  refine lv_if_ge (tgt := 5) hx hb d_MM_join_1 (by decide) (fun c9 => ?_) (fun c9 => ?_)
  · replace hF := ifp c9 hF
    refine lv_aload_n hx hb d_MM_join_5 rfl (lv_at hl 0 rfl) ?_
    refine va_get (D := D) (ci := 13) (v := .ref h0_draft) (C := R_MM) (T := T_MM) (N := 49) hx hb hg i_MM hown hK hP 0 rfl rfl 10 (by decide) (hg _ k10_56) (fun _ h9 => h9) q_h0_draft d_MM_join_6 ?_
    refine va_getN (D := D) (ci := 15) (v := .ref h0_draft_firstPart) (C := R_MG) (T := T_MG) (N := 30) hx hb hg i_MG hown hK hP 1 rfl rfl 4 (by decide) (hg _ k8_238) (fun _ h9 => h9) q_h0_draft_firstPart d_MM_join_9 ?_
    refine lv_iload_n hx hb d_MM_join_12 rfl (lv_at hl 1 rfl) ?_
    obtain ⟨o1, h1, hF⟩ := bsome hF
    refine zCalli (wc := [(h0_draft_firstPart, .inr (14, f0_h0_draft_firstPart)), (h0_draft_firstPart_all, .inl (tA 0, h0_draft_firstPart_all_n, .inl h0_draft_firstPart_all_c))]) (wr := [(h0, .inr (13, f0_h0)), (h0_draft, .inr (15, f0_h0_draft)), (h0_draft_nextPart, .inr (14, f0_h0_draft_nextPart)), (h0_draft_nextPart_all, .inl (tA 0, h0_draft_nextPart_all_n, .inl h0_draft_nextPart_all_c))]) hP hD hS hA [2, 3] [0, 1, 4, 5] rfl rfl (by decide) (by decide) (va_runV (As := [.int l1]) (rest := []) ⟨hx, hb, hml, hown, hg⟩ (m_MN_at l D tA _ h0_draft_firstPart h0_draft_firstPart_all f0_h0_draft_firstPart h0_draft_firstPart_all_n l1 h0_draft_firstPart_all_c q_h0_draft_firstPart_all o1 h1) (zV 1 hg k10_230 k10_231 k10_232 k1_15 k10_233 rfl rfl (by decide +kernel) ⟨(Nat.le_of_ble_eq_true rfl), (Nat.le_of_ble_eq_true rfl)⟩) (zPreV hh hK hP hD [2, 3] (by decide) rfl (ci := 14) rfl 0 rfl) rfl rfl hl.1 rfl (lv_room (Nat.le_of_ble_eq_true rfl)) d_MM_join_13 ⟨(Nat.le_of_ble_eq_true rfl), (Nat.le_of_ble_eq_true rfl)⟩) (fun r1 u1 H1 locs1 e1 hP1 hD1 hS1 => ?_)
    clear hP hD hS
    refine W.cs (cells' := 0) (slots' := 0) rfl rfl ?_
    have x1 := e1
    rw [x1]
    replace hP1 : va_P D vwCl [(h0, .inr (13, f0_h0)), (h0_draft, .inr (15, f0_h0_draft)), (h0_draft_nextPart, .inr (14, f0_h0_draft_nextPart)), (h0_draft_nextPart_all, .inl (tA 0, h0_draft_nextPart_all_n, .inl h0_draft_nextPart_all_c)), (h0_draft_firstPart, .inr (14, f0_h0_draft_firstPart)), (h0_draft_firstPart_all, .inl (tA 0, h0_draft_firstPart_all_n, .inl h0_draft_firstPart_all_c))] _ := hP1
    replace hD1 : va_D A [(h0, .inr (13, f0_h0)), (h0_draft, .inr (15, f0_h0_draft)), (h0_draft_nextPart, .inr (14, f0_h0_draft_nextPart)), (h0_draft_nextPart_all, .inl (tA 0, h0_draft_nextPart_all_n, .inl h0_draft_nextPart_all_c)), (h0_draft_firstPart, .inr (14, f0_h0_draft_firstPart)), (h0_draft_firstPart_all, .inl (tA 0, h0_draft_firstPart_all_n, .inl h0_draft_firstPart_all_c))] := hD1
    refine lv_if_ge (tgt := 33) hx hb d_MM_join_16 (by decide) (fun c9 => ?_) (fun c9 => ?_)
    · replace hF := ifp c9 hF
      refine lv_aload_n hx hb d_MM_join_33 rfl (lv_at hl 0 rfl) ?_
      refine va_get (D := D) (ci := 13) (v := .ref h0_draft) (C := R_MM) (T := T_MM) (N := 49) hx hb hg i_MM hown hK hP1 0 rfl rfl 10 (by decide) (hg _ k10_56) (fun _ h9 => h9) q_h0_draft d_MM_join_34 ?_
      refine va_getN (D := D) (ci := 15) (v := .ref h0_draft_firstPart) (C := R_MG) (T := T_MG) (N := 30) hx hb hg i_MG hown hK hP1 1 rfl rfl 4 (by decide) (hg _ k8_238) (fun _ h9 => h9) q_h0_draft_firstPart d_MM_join_37 ?_
      refine lv_iload_n hx hb d_MM_join_40 rfl (lv_at hl 1 rfl) ?_
      obtain ⟨o2, h2, hF⟩ := bsome hF
      refine zCalli (wc := [(h0_draft_firstPart, .inr (14, f0_h0_draft_firstPart)), (h0_draft_firstPart_all, .inl (tA 0, h0_draft_firstPart_all_n, .inl h0_draft_firstPart_all_c))]) (wr := [(h0, .inr (13, f0_h0)), (h0_draft, .inr (15, f0_h0_draft)), (h0_draft_nextPart, .inr (14, f0_h0_draft_nextPart)), (h0_draft_nextPart_all, .inl (tA 0, h0_draft_nextPart_all_n, .inl h0_draft_nextPart_all_c))]) hP1 hD1 hS1 hA [4, 5] [0, 1, 2, 3] rfl rfl (by decide) (by decide) (va_runV (As := [.int l1]) (rest := []) ⟨hx, hb, hml, hown, hg⟩ (m_MN_at l D tA _ h0_draft_firstPart h0_draft_firstPart_all f0_h0_draft_firstPart h0_draft_firstPart_all_n l1 h0_draft_firstPart_all_c q_h0_draft_firstPart_all o2 h2) (zV 1 hg k10_230 k10_231 k10_232 k1_15 k10_233 rfl rfl (by decide +kernel) ⟨(Nat.le_of_ble_eq_true rfl), (Nat.le_of_ble_eq_true rfl)⟩) (zPreV hh hK hP1 hD1 [4, 5] (by decide) rfl (ci := 14) rfl 0 rfl) rfl rfl hl.1 rfl (lv_room (Nat.le_of_ble_eq_true rfl)) d_MM_join_41 ⟨(Nat.le_of_ble_eq_true rfl), (Nat.le_of_ble_eq_true rfl)⟩) (fun r2 u2 H2 locs2 e2 hP2 hD2 hS2 => ?_)
      clear hP1 hD1 hS1
      refine W.cs (cells' := 0) (slots' := 0) rfl rfl ?_
      have x2 := e2
      rw [x2]
      replace hP2 : va_P D vwCl [(h0, .inr (13, f0_h0)), (h0_draft, .inr (15, f0_h0_draft)), (h0_draft_nextPart, .inr (14, f0_h0_draft_nextPart)), (h0_draft_nextPart_all, .inl (tA 0, h0_draft_nextPart_all_n, .inl h0_draft_nextPart_all_c)), (h0_draft_firstPart, .inr (14, f0_h0_draft_firstPart)), (h0_draft_firstPart_all, .inl (tA 0, h0_draft_firstPart_all_n, .inl h0_draft_firstPart_all_c))] _ := hP2
      replace hD2 : va_D A [(h0, .inr (13, f0_h0)), (h0_draft, .inr (15, f0_h0_draft)), (h0_draft_nextPart, .inr (14, f0_h0_draft_nextPart)), (h0_draft_nextPart_all, .inl (tA 0, h0_draft_nextPart_all_n, .inl h0_draft_nextPart_all_c)), (h0_draft_firstPart, .inr (14, f0_h0_draft_firstPart)), (h0_draft_firstPart_all, .inl (tA 0, h0_draft_firstPart_all_n, .inl h0_draft_firstPart_all_c))] := hD2
      refine lv_istore_n (lv' := [(3, .int o2), (0, .ref h0), (1, .int l1), (2, .int l2)]) hx hb d_MM_join_44 rfl hl (by decide) rfl (fun ls hl => ?_)
      exact ih1 h0_draft_firstPart_all_c h0_draft_nextPart_all_c o2   _ _ _ hF q_h0_draft q_h0_draft_firstPart q_h0_draft_nextPart q_h0_draft_firstPart_all q_h0_draft_nextPart_all (zPc hP2 [0, 1, 4, 5, 2, 3] rfl) (hD2.sub [0, 1, 4, 5, 2, 3] (by decide) rfl) hS2 (lv_sub hl [1, 2, 3, 0] rfl)
    · replace hF := ifn c9 hF
      refine lv_aload_n hx hb d_MM_join_19 rfl (lv_at hl 0 rfl) ?_
      refine va_get (D := D) (ci := 13) (v := .ref h0_draft) (C := R_MM) (T := T_MM) (N := 49) hx hb hg i_MM hown hK hP1 0 rfl rfl 10 (by decide) (hg _ k10_56) (fun _ h9 => h9) q_h0_draft d_MM_join_20 ?_
      refine va_getN (D := D) (ci := 15) (v := .ref h0_draft_firstPart) (C := R_MG) (T := T_MG) (N := 30) hx hb hg i_MG hown hK hP1 1 rfl rfl 4 (by decide) (hg _ k8_238) (fun _ h9 => h9) q_h0_draft_firstPart d_MM_join_23 ?_
      refine va_getN (D := D) (ci := 14) (v := .ref h0_draft_firstPart_all) (C := R_MN) (T := T_MN) (N := 2) hx hb hg i_MN hown hK hP1 4 rfl rfl 0 (by decide) (hg _ k8_212) (fun _ h9 => h9) q_h0_draft_firstPart_all d_MM_join_26 ?_
      refine lv_iload_n hx hb d_MM_join_29 rfl (lv_at hl 1 rfl) ?_
      refine lv_iload_n hx hb d_MM_join_30 rfl (lv_at hl 2 rfl) ?_
      obtain ⟨h9, hF⟩ := chk_some hF
      refine va_iast hx hb hK hP1 hD1 hS1 5 0 rfl rfl (vp_in_iff.mpr h9) d_MM_join_31 (fun H2 locs2 hP2 hD2 hS2 => ?_)
      clear hP1 hD1 hS1
      replace hP2 : va_P D vwCl [(h0, .inr (13, f0_h0)), (h0_draft, .inr (15, f0_h0_draft)), (h0_draft_nextPart, .inr (14, f0_h0_draft_nextPart)), (h0_draft_nextPart_all, .inl (tA 0, h0_draft_nextPart_all_n, .inl h0_draft_nextPart_all_c)), (h0_draft_firstPart, .inr (14, f0_h0_draft_firstPart)), (h0_draft_firstPart_all, .inl (tA 0, h0_draft_firstPart_all_n, .inl (upd h0_draft_firstPart_all_c (l1 : Int32).toNatClampNeg l2)))] _ := hP2
      replace hD2 : va_D A [(h0, .inr (13, f0_h0)), (h0_draft, .inr (15, f0_h0_draft)), (h0_draft_nextPart, .inr (14, f0_h0_draft_nextPart)), (h0_draft_nextPart_all, .inl (tA 0, h0_draft_nextPart_all_n, .inl h0_draft_nextPart_all_c)), (h0_draft_firstPart, .inr (14, f0_h0_draft_firstPart)), (h0_draft_firstPart_all, .inl (tA 0, h0_draft_firstPart_all_n, .inl (upd h0_draft_firstPart_all_c (l1 : Int32).toNatClampNeg l2)))] := hD2
      replace hF := Option.some.inj hF
      subst hF
      exact zVret (post := (fun (u9 : Unit) => True)) (W1 := (fun (u9 : Unit) => [(h0, .inr (13, f0_h0)), (h0_draft, .inr (15, f0_h0_draft)), (h0_draft_firstPart, .inr (14, f0_h0_draft_firstPart)), (h0_draft_firstPart_all, .inl (tA 0, h0_draft_firstPart_all_n, .inl ((upd h0_draft_firstPart_all_c (l1 : Int32).toNatClampNeg l2, h0_draft_nextPart_all_c).1))), (h0_draft_nextPart, .inr (14, f0_h0_draft_nextPart)), (h0_draft_nextPart_all, .inl (tA 0, h0_draft_nextPart_all_n, .inl ((upd h0_draft_firstPart_all_c (l1 : Int32).toNatClampNeg l2, h0_draft_nextPart_all_c).2)))])) hx hb hr hlocks (zPc (wc := [(h0, .inr (13, f0_h0)), (h0_draft, .inr (15, f0_h0_draft)), (h0_draft_firstPart, .inr (14, f0_h0_draft_firstPart)), (h0_draft_firstPart_all, .inl (tA 0, h0_draft_firstPart_all_n, .inl (upd h0_draft_firstPart_all_c (l1 : Int32).toNatClampNeg l2))), (h0_draft_nextPart, .inr (14, f0_h0_draft_nextPart)), (h0_draft_nextPart_all, .inl (tA 0, h0_draft_nextPart_all_n, .inl h0_draft_nextPart_all_c))]) hP2 [0, 1, 4, 5, 2, 3] rfl) (va_D.sub (ws' := [(h0, .inr (13, f0_h0)), (h0_draft, .inr (15, f0_h0_draft)), (h0_draft_firstPart, .inr (14, f0_h0_draft_firstPart)), (h0_draft_firstPart_all, .inl (tA 0, h0_draft_firstPart_all_n, .inl (upd h0_draft_firstPart_all_c (l1 : Int32).toNatClampNeg l2))), (h0_draft_nextPart, .inr (14, f0_h0_draft_nextPart)), (h0_draft_nextPart_all, .inl (tA 0, h0_draft_nextPart_all_n, .inl h0_draft_nextPart_all_c))]) hD2 [0, 1, 4, 5, 2, 3] (by decide) rfl) hS2 () trivial rfl d_MM_join_32
  · replace hF := ifn c9 hF
    replace hF := Option.some.inj hF
    subst hF
    exact zVret (post := (fun (u9 : Unit) => True)) (W1 := (fun (u9 : Unit) => [(h0, .inr (13, f0_h0)), (h0_draft, .inr (15, f0_h0_draft)), (h0_draft_firstPart, .inr (14, f0_h0_draft_firstPart)), (h0_draft_firstPart_all, .inl (tA 0, h0_draft_firstPart_all_n, .inl ((h0_draft_firstPart_all_c, h0_draft_nextPart_all_c).1))), (h0_draft_nextPart, .inr (14, f0_h0_draft_nextPart)), (h0_draft_nextPart_all, .inl (tA 0, h0_draft_nextPart_all_n, .inl ((h0_draft_firstPart_all_c, h0_draft_nextPart_all_c).2)))])) hx hb hr hlocks hP hD hS () trivial rfl d_MM_join_4
set_option maxHeartbeats 4000000 in
set_option maxRecDepth 100000 in
theorem b_MM_join_1 {p : Program} {l : Launch} {e : Env} {s : State} {m : MethodId} {args : Array Value} {below : List Frame} {meth : Method} {c : Code} {D : va_G} {tA : Nat → ClassId} {A : Nat → Prop} {h0 h0_draft h0_draft_firstPart h0_draft_firstPart_all h0_draft_nextPart h0_draft_nextPart_all : Nat} {f0_h0 f0_h0_draft f0_h0_draft_firstPart f0_h0_draft_nextPart : List Value} {h0_draft_firstPart_all_n : Nat} {h0_draft_nextPart_all_n : Nat} {l1 : Int32} {l2 : Int32} {out : (Nat → Int32) × (Nat → Int32)} (hx : p.tables.exec = Jvm.exec) (hb : c.code = prog_15_method_31_code) (hr : meth.sig.returnType = (Option.none : Option Jvm.ClassFile.FieldType)) (hml : c.maxLocals = 4) (hh : zH s) (hg : ∀ w ∈ lw_R, w.before args s = true) (hown : s.vm.findClass "ChanceArenaModel" = some m.cls) (hlocks : meth.locks = false) (hK : va_K D vwCl (zT tA) s) (hA : ∀ q, s.heap.size ≤ q → A q) {n : Nat} (ih1 : ∀ (h0_draft_firstPart_all_c : Nat → Int32) (h0_draft_nextPart_all_c : Nat → Int32) (l3 : Int32) (H : Heap) (locs : List Loc) (ls : Array Slot), f_MM_join h0_draft_firstPart_all_n h0_draft_nextPart_all_n l1 l2 n 1 h0_draft_firstPart_all_c h0_draft_nextPart_all_c l3 = some out → f0_h0[10]? = some (.ref h0_draft) → f0_h0_draft[4]? = some (.ref h0_draft_firstPart) → f0_h0_draft[5]? = some (.ref h0_draft_nextPart) → f0_h0_draft_firstPart[0]? = some (.ref h0_draft_firstPart_all) → f0_h0_draft_nextPart[0]? = some (.ref h0_draft_nextPart_all) → va_P D vwCl [(h0, .inr (13, f0_h0)), (h0_draft, .inr (15, f0_h0_draft)), (h0_draft_firstPart, .inr (14, f0_h0_draft_firstPart)), (h0_draft_firstPart_all, .inl (tA 0, h0_draft_firstPart_all_n, .inl h0_draft_firstPart_all_c)), (h0_draft_nextPart, .inr (14, f0_h0_draft_nextPart)), (h0_draft_nextPart_all, .inl (tA 0, h0_draft_nextPart_all_n, .inl h0_draft_nextPart_all_c))] H → va_D A [(h0, .inr (13, f0_h0)), (h0_draft, .inr (15, f0_h0_draft)), (h0_draft_firstPart, .inr (14, f0_h0_draft_firstPart)), (h0_draft_firstPart_all, .inl (tA 0, h0_draft_firstPart_all_n, .inl h0_draft_firstPart_all_c)), (h0_draft_nextPart, .inr (14, f0_h0_draft_nextPart)), (h0_draft_nextPart_all, .inl (tA 0, h0_draft_nextPart_all_n, .inl h0_draft_nextPart_all_c))] → va_S A s.heap H locs → lv_has ls 4 [(0, .ref h0), (1, .int l1), (2, .int l2), (3, .int l3)] → W p l e { frames := 1, cells := 0, slots := 0, locals := 21 } s m args below meth c H locs 0 0 (MQ below (va_Qv (fun (u9 : Unit) => True) (zPost D A (fun (u9 : Unit) => [(h0, .inr (13, f0_h0)), (h0_draft, .inr (15, f0_h0_draft)), (h0_draft_firstPart, .inr (14, f0_h0_draft_firstPart)), (h0_draft_firstPart_all, .inl (tA 0, h0_draft_firstPart_all_n, .inl out.1)), (h0_draft_nextPart, .inr (14, f0_h0_draft_nextPart)), (h0_draft_nextPart_all, .inl (tA 0, h0_draft_nextPart_all_n, .inl out.2))])) A) args s 0 0 A) (F0 m 45 ls [])) : ∀ (h0_draft_firstPart_all_c : Nat → Int32) (h0_draft_nextPart_all_c : Nat → Int32) (l3 : Int32) (H : Heap) (locs : List Loc) (ls : Array Slot), f_MM_join h0_draft_firstPart_all_n h0_draft_nextPart_all_n l1 l2 (n + 1) 1 h0_draft_firstPart_all_c h0_draft_nextPart_all_c l3 = some out → f0_h0[10]? = some (.ref h0_draft) → f0_h0_draft[4]? = some (.ref h0_draft_firstPart) → f0_h0_draft[5]? = some (.ref h0_draft_nextPart) → f0_h0_draft_firstPart[0]? = some (.ref h0_draft_firstPart_all) → f0_h0_draft_nextPart[0]? = some (.ref h0_draft_nextPart_all) → va_P D vwCl [(h0, .inr (13, f0_h0)), (h0_draft, .inr (15, f0_h0_draft)), (h0_draft_firstPart, .inr (14, f0_h0_draft_firstPart)), (h0_draft_firstPart_all, .inl (tA 0, h0_draft_firstPart_all_n, .inl h0_draft_firstPart_all_c)), (h0_draft_nextPart, .inr (14, f0_h0_draft_nextPart)), (h0_draft_nextPart_all, .inl (tA 0, h0_draft_nextPart_all_n, .inl h0_draft_nextPart_all_c))] H → va_D A [(h0, .inr (13, f0_h0)), (h0_draft, .inr (15, f0_h0_draft)), (h0_draft_firstPart, .inr (14, f0_h0_draft_firstPart)), (h0_draft_firstPart_all, .inl (tA 0, h0_draft_firstPart_all_n, .inl h0_draft_firstPart_all_c)), (h0_draft_nextPart, .inr (14, f0_h0_draft_nextPart)), (h0_draft_nextPart_all, .inl (tA 0, h0_draft_nextPart_all_n, .inl h0_draft_nextPart_all_c))] → va_S A s.heap H locs → lv_has ls 4 [(0, .ref h0), (1, .int l1), (2, .int l2), (3, .int l3)] → W p l e { frames := 1, cells := 0, slots := 0, locals := 21 } s m args below meth c H locs 0 0 (MQ below (va_Qv (fun (u9 : Unit) => True) (zPost D A (fun (u9 : Unit) => [(h0, .inr (13, f0_h0)), (h0_draft, .inr (15, f0_h0_draft)), (h0_draft_firstPart, .inr (14, f0_h0_draft_firstPart)), (h0_draft_firstPart_all, .inl (tA 0, h0_draft_firstPart_all_n, .inl out.1)), (h0_draft_nextPart, .inr (14, f0_h0_draft_nextPart)), (h0_draft_nextPart_all, .inl (tA 0, h0_draft_nextPart_all_n, .inl out.2))])) A) args s 0 0 A) (F0 m 45 ls []) := by
  intro h0_draft_firstPart_all_c h0_draft_nextPart_all_c l3   H locs ls hF q_h0_draft q_h0_draft_firstPart q_h0_draft_nextPart q_h0_draft_firstPart_all q_h0_draft_nextPart_all hP hD hS hl
  rw [e_MM_join_1] at hF
  refine lv_aload_n hx hb d_MM_join_45 rfl (lv_at hl 0 rfl) ?_
  refine va_get (D := D) (ci := 13) (v := .ref h0_draft) (C := R_MM) (T := T_MM) (N := 49) hx hb hg i_MM hown hK hP 0 rfl rfl 10 (by decide) (hg _ k10_56) (fun _ h9 => h9) q_h0_draft d_MM_join_46 ?_
  refine va_getN (D := D) (ci := 15) (v := .ref h0_draft_nextPart) (C := R_MG) (T := T_MG) (N := 30) hx hb hg i_MG hown hK hP 1 rfl rfl 5 (by decide) (hg _ k9_0) (fun _ h9 => h9) q_h0_draft_nextPart d_MM_join_49 ?_
  refine lv_iload_n hx hb d_MM_join_52 rfl (lv_at hl 3 rfl) ?_
  obtain ⟨o3, h3, hF⟩ := bsome hF
  refine zCalli (wc := [(h0_draft_nextPart, .inr (14, f0_h0_draft_nextPart)), (h0_draft_nextPart_all, .inl (tA 0, h0_draft_nextPart_all_n, .inl h0_draft_nextPart_all_c))]) (wr := [(h0, .inr (13, f0_h0)), (h0_draft, .inr (15, f0_h0_draft)), (h0_draft_firstPart, .inr (14, f0_h0_draft_firstPart)), (h0_draft_firstPart_all, .inl (tA 0, h0_draft_firstPart_all_n, .inl h0_draft_firstPart_all_c))]) hP hD hS hA [4, 5] [0, 1, 2, 3] rfl rfl (by decide) (by decide) (va_runV (As := [.int l3]) (rest := []) ⟨hx, hb, hml, hown, hg⟩ (m_MN_at l D tA _ h0_draft_nextPart h0_draft_nextPart_all f0_h0_draft_nextPart h0_draft_nextPart_all_n l3 h0_draft_nextPart_all_c q_h0_draft_nextPart_all o3 h3) (zV 1 hg k10_230 k10_231 k10_232 k1_15 k10_233 rfl rfl (by decide +kernel) ⟨(Nat.le_of_ble_eq_true rfl), (Nat.le_of_ble_eq_true rfl)⟩) (zPreV hh hK hP hD [4, 5] (by decide) rfl (ci := 14) rfl 0 rfl) rfl rfl hl.1 rfl (lv_room (Nat.le_of_ble_eq_true rfl)) d_MM_join_53 ⟨(Nat.le_of_ble_eq_true rfl), (Nat.le_of_ble_eq_true rfl)⟩) (fun r3 u3 H1 locs1 e3 hP1 hD1 hS1 => ?_)
  clear hP hD hS
  refine W.cs (cells' := 0) (slots' := 0) rfl rfl ?_
  have x3 := e3
  rw [x3]
  replace hP1 : va_P D vwCl [(h0, .inr (13, f0_h0)), (h0_draft, .inr (15, f0_h0_draft)), (h0_draft_firstPart, .inr (14, f0_h0_draft_firstPart)), (h0_draft_firstPart_all, .inl (tA 0, h0_draft_firstPart_all_n, .inl h0_draft_firstPart_all_c)), (h0_draft_nextPart, .inr (14, f0_h0_draft_nextPart)), (h0_draft_nextPart_all, .inl (tA 0, h0_draft_nextPart_all_n, .inl h0_draft_nextPart_all_c))] _ := hP1
  replace hD1 : va_D A [(h0, .inr (13, f0_h0)), (h0_draft, .inr (15, f0_h0_draft)), (h0_draft_firstPart, .inr (14, f0_h0_draft_firstPart)), (h0_draft_firstPart_all, .inl (tA 0, h0_draft_firstPart_all_n, .inl h0_draft_firstPart_all_c)), (h0_draft_nextPart, .inr (14, f0_h0_draft_nextPart)), (h0_draft_nextPart_all, .inl (tA 0, h0_draft_nextPart_all_n, .inl h0_draft_nextPart_all_c))] := hD1
  refine lv_if_lt (tgt := 74) hx hb d_MM_join_56 (by decide) (fun c9 => ?_) (fun c9 => ?_)
  · replace hF := ifp c9 hF
    refine lv_aload_n hx hb d_MM_join_74 rfl (lv_at hl 0 rfl) ?_
    refine va_get (D := D) (ci := 13) (v := .ref h0_draft) (C := R_MM) (T := T_MM) (N := 49) hx hb hg i_MM hown hK hP1 0 rfl rfl 10 (by decide) (hg _ k10_56) (fun _ h9 => h9) q_h0_draft d_MM_join_75 ?_
    refine va_getN (D := D) (ci := 15) (v := .ref h0_draft_nextPart) (C := R_MG) (T := T_MG) (N := 30) hx hb hg i_MG hown hK hP1 1 rfl rfl 5 (by decide) (hg _ k9_0) (fun _ h9 => h9) q_h0_draft_nextPart d_MM_join_78 ?_
    refine va_getN (D := D) (ci := 14) (v := .ref h0_draft_nextPart_all) (C := R_MN) (T := T_MN) (N := 2) hx hb hg i_MN hown hK hP1 4 rfl rfl 0 (by decide) (hg _ k8_212) (fun _ h9 => h9) q_h0_draft_nextPart_all d_MM_join_81 ?_
    refine lv_iload_n hx hb d_MM_join_84 rfl (lv_at hl 3 rfl) ?_
    refine lv_iload_n hx hb d_MM_join_85 rfl (lv_at hl 2 rfl) ?_
    obtain ⟨h9, hF⟩ := chk_some hF
    refine va_iast hx hb hK hP1 hD1 hS1 5 0 rfl rfl (vp_in_iff.mpr h9) d_MM_join_86 (fun H2 locs2 hP2 hD2 hS2 => ?_)
    clear hP1 hD1 hS1
    replace hP2 : va_P D vwCl [(h0, .inr (13, f0_h0)), (h0_draft, .inr (15, f0_h0_draft)), (h0_draft_firstPart, .inr (14, f0_h0_draft_firstPart)), (h0_draft_firstPart_all, .inl (tA 0, h0_draft_firstPart_all_n, .inl h0_draft_firstPart_all_c)), (h0_draft_nextPart, .inr (14, f0_h0_draft_nextPart)), (h0_draft_nextPart_all, .inl (tA 0, h0_draft_nextPart_all_n, .inl (upd h0_draft_nextPart_all_c (l3 : Int32).toNatClampNeg l2)))] _ := hP2
    replace hD2 : va_D A [(h0, .inr (13, f0_h0)), (h0_draft, .inr (15, f0_h0_draft)), (h0_draft_firstPart, .inr (14, f0_h0_draft_firstPart)), (h0_draft_firstPart_all, .inl (tA 0, h0_draft_firstPart_all_n, .inl h0_draft_firstPart_all_c)), (h0_draft_nextPart, .inr (14, f0_h0_draft_nextPart)), (h0_draft_nextPart_all, .inl (tA 0, h0_draft_nextPart_all_n, .inl (upd h0_draft_nextPart_all_c (l3 : Int32).toNatClampNeg l2)))] := hD2
    replace hF := Option.some.inj hF
    subst hF
    exact zVret (post := (fun (u9 : Unit) => True)) (W1 := (fun (u9 : Unit) => [(h0, .inr (13, f0_h0)), (h0_draft, .inr (15, f0_h0_draft)), (h0_draft_firstPart, .inr (14, f0_h0_draft_firstPart)), (h0_draft_firstPart_all, .inl (tA 0, h0_draft_firstPart_all_n, .inl ((h0_draft_firstPart_all_c, upd h0_draft_nextPart_all_c (l3 : Int32).toNatClampNeg l2).1))), (h0_draft_nextPart, .inr (14, f0_h0_draft_nextPart)), (h0_draft_nextPart_all, .inl (tA 0, h0_draft_nextPart_all_n, .inl ((h0_draft_firstPart_all_c, upd h0_draft_nextPart_all_c (l3 : Int32).toNatClampNeg l2).2)))])) hx hb hr hlocks hP2 hD2 hS2 () trivial rfl d_MM_join_87
  · replace hF := ifn c9 hF
    refine lv_aload_n hx hb d_MM_join_59 rfl (lv_at hl 0 rfl) ?_
    refine va_get (D := D) (ci := 13) (v := .ref h0_draft) (C := R_MM) (T := T_MM) (N := 49) hx hb hg i_MM hown hK hP1 0 rfl rfl 10 (by decide) (hg _ k10_56) (fun _ h9 => h9) q_h0_draft d_MM_join_60 ?_
    refine va_getN (D := D) (ci := 15) (v := .ref h0_draft_nextPart) (C := R_MG) (T := T_MG) (N := 30) hx hb hg i_MG hown hK hP1 1 rfl rfl 5 (by decide) (hg _ k9_0) (fun _ h9 => h9) q_h0_draft_nextPart d_MM_join_63 ?_
    refine lv_iload_n hx hb d_MM_join_66 rfl (lv_at hl 3 rfl) ?_
    obtain ⟨o4, h4, hF⟩ := bsome hF
    refine zCalli (wc := [(h0_draft_nextPart, .inr (14, f0_h0_draft_nextPart)), (h0_draft_nextPart_all, .inl (tA 0, h0_draft_nextPart_all_n, .inl h0_draft_nextPart_all_c))]) (wr := [(h0, .inr (13, f0_h0)), (h0_draft, .inr (15, f0_h0_draft)), (h0_draft_firstPart, .inr (14, f0_h0_draft_firstPart)), (h0_draft_firstPart_all, .inl (tA 0, h0_draft_firstPart_all_n, .inl h0_draft_firstPart_all_c))]) hP1 hD1 hS1 hA [4, 5] [0, 1, 2, 3] rfl rfl (by decide) (by decide) (va_runV (As := [.int l3]) (rest := []) ⟨hx, hb, hml, hown, hg⟩ (m_MN_at l D tA _ h0_draft_nextPart h0_draft_nextPart_all f0_h0_draft_nextPart h0_draft_nextPart_all_n l3 h0_draft_nextPart_all_c q_h0_draft_nextPart_all o4 h4) (zV 1 hg k10_230 k10_231 k10_232 k1_15 k10_233 rfl rfl (by decide +kernel) ⟨(Nat.le_of_ble_eq_true rfl), (Nat.le_of_ble_eq_true rfl)⟩) (zPreV hh hK hP1 hD1 [4, 5] (by decide) rfl (ci := 14) rfl 0 rfl) rfl rfl hl.1 rfl (lv_room (Nat.le_of_ble_eq_true rfl)) d_MM_join_67 ⟨(Nat.le_of_ble_eq_true rfl), (Nat.le_of_ble_eq_true rfl)⟩) (fun r4 u4 H2 locs2 e4 hP2 hD2 hS2 => ?_)
    clear hP1 hD1 hS1
    refine W.cs (cells' := 0) (slots' := 0) rfl rfl ?_
    have x4 := e4
    rw [x4]
    replace hP2 : va_P D vwCl [(h0, .inr (13, f0_h0)), (h0_draft, .inr (15, f0_h0_draft)), (h0_draft_firstPart, .inr (14, f0_h0_draft_firstPart)), (h0_draft_firstPart_all, .inl (tA 0, h0_draft_firstPart_all_n, .inl h0_draft_firstPart_all_c)), (h0_draft_nextPart, .inr (14, f0_h0_draft_nextPart)), (h0_draft_nextPart_all, .inl (tA 0, h0_draft_nextPart_all_n, .inl h0_draft_nextPart_all_c))] _ := hP2
    replace hD2 : va_D A [(h0, .inr (13, f0_h0)), (h0_draft, .inr (15, f0_h0_draft)), (h0_draft_firstPart, .inr (14, f0_h0_draft_firstPart)), (h0_draft_firstPart_all, .inl (tA 0, h0_draft_firstPart_all_n, .inl h0_draft_firstPart_all_c)), (h0_draft_nextPart, .inr (14, f0_h0_draft_nextPart)), (h0_draft_nextPart_all, .inl (tA 0, h0_draft_nextPart_all_n, .inl h0_draft_nextPart_all_c))] := hD2
    refine lv_istore_n (lv' := [(3, .int o4), (0, .ref h0), (1, .int l1), (2, .int l2)]) hx hb d_MM_join_70 rfl hl (by decide) rfl (fun ls hl => ?_)
    refine lv_goto (tgt := 45) hx hb d_MM_join_71 (by decide) ?_
    exact ih1 h0_draft_firstPart_all_c h0_draft_nextPart_all_c o4   _ _ _ hF q_h0_draft q_h0_draft_firstPart q_h0_draft_nextPart q_h0_draft_firstPart_all q_h0_draft_nextPart_all hP2 hD2 hS2 (lv_sub hl [1, 2, 3, 0] rfl)
set_option maxHeartbeats 4000000 in
set_option maxRecDepth 100000 in
theorem a_MM_join {p : Program} {l : Launch} {e : Env} {s : State} {m : MethodId} {args : Array Value} {below : List Frame} {meth : Method} {c : Code} {D : va_G} {tA : Nat → ClassId} {A : Nat → Prop} {h0 h0_draft h0_draft_firstPart h0_draft_firstPart_all h0_draft_nextPart h0_draft_nextPart_all : Nat} {f0_h0 f0_h0_draft f0_h0_draft_firstPart f0_h0_draft_nextPart : List Value} {h0_draft_firstPart_all_n : Nat} {h0_draft_nextPart_all_n : Nat} {l1 : Int32} {l2 : Int32} {out : (Nat → Int32) × (Nat → Int32)} (hx : p.tables.exec = Jvm.exec) (hb : c.code = prog_15_method_31_code) (hr : meth.sig.returnType = (Option.none : Option Jvm.ClassFile.FieldType)) (hml : c.maxLocals = 4) (hh : zH s) (hg : ∀ w ∈ lw_R, w.before args s = true) (hown : s.vm.findClass "ChanceArenaModel" = some m.cls) (hlocks : meth.locks = false) (hK : va_K D vwCl (zT tA) s) (hA : ∀ q, s.heap.size ≤ q → A q) : ∀ n : Nat, (∀ (h0_draft_firstPart_all_c : Nat → Int32) (h0_draft_nextPart_all_c : Nat → Int32) (l3 : Int32) (H : Heap) (locs : List Loc) (ls : Array Slot), f_MM_join h0_draft_firstPart_all_n h0_draft_nextPart_all_n l1 l2 n 0 h0_draft_firstPart_all_c h0_draft_nextPart_all_c l3 = some out → f0_h0[10]? = some (.ref h0_draft) → f0_h0_draft[4]? = some (.ref h0_draft_firstPart) → f0_h0_draft[5]? = some (.ref h0_draft_nextPart) → f0_h0_draft_firstPart[0]? = some (.ref h0_draft_firstPart_all) → f0_h0_draft_nextPart[0]? = some (.ref h0_draft_nextPart_all) → va_P D vwCl [(h0, .inr (13, f0_h0)), (h0_draft, .inr (15, f0_h0_draft)), (h0_draft_firstPart, .inr (14, f0_h0_draft_firstPart)), (h0_draft_firstPart_all, .inl (tA 0, h0_draft_firstPart_all_n, .inl h0_draft_firstPart_all_c)), (h0_draft_nextPart, .inr (14, f0_h0_draft_nextPart)), (h0_draft_nextPart_all, .inl (tA 0, h0_draft_nextPart_all_n, .inl h0_draft_nextPart_all_c))] H → va_D A [(h0, .inr (13, f0_h0)), (h0_draft, .inr (15, f0_h0_draft)), (h0_draft_firstPart, .inr (14, f0_h0_draft_firstPart)), (h0_draft_firstPart_all, .inl (tA 0, h0_draft_firstPart_all_n, .inl h0_draft_firstPart_all_c)), (h0_draft_nextPart, .inr (14, f0_h0_draft_nextPart)), (h0_draft_nextPart_all, .inl (tA 0, h0_draft_nextPart_all_n, .inl h0_draft_nextPart_all_c))] → va_S A s.heap H locs → lv_has ls 4 [(0, .ref h0), (1, .int l1), (2, .int l2)] → W p l e { frames := 1, cells := 0, slots := 0, locals := 21 } s m args below meth c H locs 0 0 (MQ below (va_Qv (fun (u9 : Unit) => True) (zPost D A (fun (u9 : Unit) => [(h0, .inr (13, f0_h0)), (h0_draft, .inr (15, f0_h0_draft)), (h0_draft_firstPart, .inr (14, f0_h0_draft_firstPart)), (h0_draft_firstPart_all, .inl (tA 0, h0_draft_firstPart_all_n, .inl out.1)), (h0_draft_nextPart, .inr (14, f0_h0_draft_nextPart)), (h0_draft_nextPart_all, .inl (tA 0, h0_draft_nextPart_all_n, .inl out.2))])) A) args s 0 0 A) (F0 m 0 ls [])) ∧ (∀ (h0_draft_firstPart_all_c : Nat → Int32) (h0_draft_nextPart_all_c : Nat → Int32) (l3 : Int32) (H : Heap) (locs : List Loc) (ls : Array Slot), f_MM_join h0_draft_firstPart_all_n h0_draft_nextPart_all_n l1 l2 n 1 h0_draft_firstPart_all_c h0_draft_nextPart_all_c l3 = some out → f0_h0[10]? = some (.ref h0_draft) → f0_h0_draft[4]? = some (.ref h0_draft_firstPart) → f0_h0_draft[5]? = some (.ref h0_draft_nextPart) → f0_h0_draft_firstPart[0]? = some (.ref h0_draft_firstPart_all) → f0_h0_draft_nextPart[0]? = some (.ref h0_draft_nextPart_all) → va_P D vwCl [(h0, .inr (13, f0_h0)), (h0_draft, .inr (15, f0_h0_draft)), (h0_draft_firstPart, .inr (14, f0_h0_draft_firstPart)), (h0_draft_firstPart_all, .inl (tA 0, h0_draft_firstPart_all_n, .inl h0_draft_firstPart_all_c)), (h0_draft_nextPart, .inr (14, f0_h0_draft_nextPart)), (h0_draft_nextPart_all, .inl (tA 0, h0_draft_nextPart_all_n, .inl h0_draft_nextPart_all_c))] H → va_D A [(h0, .inr (13, f0_h0)), (h0_draft, .inr (15, f0_h0_draft)), (h0_draft_firstPart, .inr (14, f0_h0_draft_firstPart)), (h0_draft_firstPart_all, .inl (tA 0, h0_draft_firstPart_all_n, .inl h0_draft_firstPart_all_c)), (h0_draft_nextPart, .inr (14, f0_h0_draft_nextPart)), (h0_draft_nextPart_all, .inl (tA 0, h0_draft_nextPart_all_n, .inl h0_draft_nextPart_all_c))] → va_S A s.heap H locs → lv_has ls 4 [(0, .ref h0), (1, .int l1), (2, .int l2), (3, .int l3)] → W p l e { frames := 1, cells := 0, slots := 0, locals := 21 } s m args below meth c H locs 0 0 (MQ below (va_Qv (fun (u9 : Unit) => True) (zPost D A (fun (u9 : Unit) => [(h0, .inr (13, f0_h0)), (h0_draft, .inr (15, f0_h0_draft)), (h0_draft_firstPart, .inr (14, f0_h0_draft_firstPart)), (h0_draft_firstPart_all, .inl (tA 0, h0_draft_firstPart_all_n, .inl out.1)), (h0_draft_nextPart, .inr (14, f0_h0_draft_nextPart)), (h0_draft_nextPart_all, .inl (tA 0, h0_draft_nextPart_all_n, .inl out.2))])) A) args s 0 0 A) (F0 m 45 ls [])) := by
  intro n
  induction n with
  | zero => exact ⟨(fun _ _ _ _ _ _ hF => by rw [z_MM_join] at hF; cases hF), (fun _ _ _ _ _ _ hF => by rw [z_MM_join] at hF; cases hF)⟩
  | succ n ih =>
    obtain ⟨i0, i1⟩ := ih
    exact ⟨b_MM_join_0 hx hb hr hml hh hg hown hlocks hK hA i1, b_MM_join_1 hx hb hr hml hh hg hown hlocks hK hA i1⟩
set_option maxHeartbeats 4000000 in
set_option maxRecDepth 100000 in
theorem m_MM_join (l : Launch) (D : va_G) (tA : Nat → ClassId) (sz : Nat) (h0 h0_draft h0_draft_firstPart h0_draft_firstPart_all h0_draft_nextPart h0_draft_nextPart_all : Nat) (f0_h0 f0_h0_draft f0_h0_draft_firstPart f0_h0_draft_nextPart : List Value) (h0_draft_firstPart_all_n : Nat) (h0_draft_nextPart_all_n : Nat) (l1 : Int32) (l2 : Int32) (h0_draft_firstPart_all_c : Nat → Int32) (h0_draft_nextPart_all_c : Nat → Int32) (q_h0_draft : f0_h0[10]? = some (.ref h0_draft)) (q_h0_draft_firstPart : f0_h0_draft[4]? = some (.ref h0_draft_firstPart)) (q_h0_draft_nextPart : f0_h0_draft[5]? = some (.ref h0_draft_nextPart)) (q_h0_draft_firstPart_all : f0_h0_draft_firstPart[0]? = some (.ref h0_draft_firstPart_all)) (q_h0_draft_nextPart_all : f0_h0_draft_nextPart[0]? = some (.ref h0_draft_nextPart_all)) (n : Nat) (out : (Nat → Int32) × (Nat → Int32)) (hF : f_MM_join h0_draft_firstPart_all_n h0_draft_nextPart_all_n l1 l2 n 0 h0_draft_firstPart_all_c h0_draft_nextPart_all_c 0 = some out) : zMv l ({ cls := "ChanceArenaModel", name := "join", desc := "(II)V" } : Jvm.MethodName) (zW (Jvm.Cond.code ({ cls := "ChanceArenaModel", name := "join", desc := "(II)V" } : Jvm.MethodName) prog_15_method_31_code (4 : Nat) (Option.none : Option Jvm.ClassFile.FieldType))) { frames := 1, cells := 0, slots := 0, locals := 21 } [.ref h0, .int l1, .int l2] D tA [(h0, .inr (13, f0_h0)), (h0_draft, .inr (15, f0_h0_draft)), (h0_draft_firstPart, .inr (14, f0_h0_draft_firstPart)), (h0_draft_firstPart_all, .inl (tA 0, h0_draft_firstPart_all_n, .inl h0_draft_firstPart_all_c)), (h0_draft_nextPart, .inr (14, f0_h0_draft_nextPart)), (h0_draft_nextPart_all, .inl (tA 0, h0_draft_nextPart_all_n, .inl h0_draft_nextPart_all_c))] sz (fun (u9 : Unit) => True) (fun (u9 : Unit) => [(h0, .inr (13, f0_h0)), (h0_draft, .inr (15, f0_h0_draft)), (h0_draft_firstPart, .inr (14, f0_h0_draft_firstPart)), (h0_draft_firstPart_all, .inl (tA 0, h0_draft_firstPart_all_n, .inl out.1)), (h0_draft_nextPart, .inr (14, f0_h0_draft_nextPart)), (h0_draft_nextPart_all, .inl (tA 0, h0_draft_nextPart_all_n, .inl out.2))]) 0 0 := by
  refine zOpen (l := l) (y := ({ cls := "ChanceArenaModel", name := "join", desc := "(II)V" } : Jvm.MethodName)) (ws := zW (Jvm.Cond.code ({ cls := "ChanceArenaModel", name := "join", desc := "(II)V" } : Jvm.MethodName) prog_15_method_31_code (4 : Nat) (Option.none : Option Jvm.ClassFile.FieldType))) (rm := { frames := 1, cells := 0, slots := 0, locals := 21 }) (av := [.ref h0, .int l1, .int l2]) (D := D) (tA := tA) (W0 := [(h0, .inr (13, f0_h0)), (h0_draft, .inr (15, f0_h0_draft)), (h0_draft_firstPart, .inr (14, f0_h0_draft_firstPart)), (h0_draft_firstPart_all, .inl (tA 0, h0_draft_firstPart_all_n, .inl h0_draft_firstPart_all_c)), (h0_draft_nextPart, .inr (14, f0_h0_draft_nextPart)), (h0_draft_nextPart_all, .inl (tA 0, h0_draft_nextPart_all_n, .inl h0_draft_nextPart_all_c))]) (Wm := [(h0, .inr (13, f0_h0)), (h0_draft, .inr (15, f0_h0_draft)), (h0_draft_firstPart, .inr (14, f0_h0_draft_firstPart)), (h0_draft_firstPart_all, .inl (tA 0, h0_draft_firstPart_all_n, .inl h0_draft_firstPart_all_c)), (h0_draft_nextPart, .inr (14, f0_h0_draft_nextPart)), (h0_draft_nextPart_all, .inl (tA 0, h0_draft_nextPart_all_n, .inl h0_draft_nextPart_all_c))]) (sz := sz) (mc := 0) (ms := 0) (fun A => va_Qv (fun (u9 : Unit) => True) (zPost D A (fun (u9 : Unit) => [(h0, .inr (13, f0_h0)), (h0_draft, .inr (15, f0_h0_draft)), (h0_draft_firstPart, .inr (14, f0_h0_draft_firstPart)), (h0_draft_firstPart_all, .inl (tA 0, h0_draft_firstPart_all_n, .inl out.1)), (h0_draft_nextPart, .inr (14, f0_h0_draft_nextPart)), (h0_draft_nextPart_all, .inl (tA 0, h0_draft_nextPart_all_n, .inl out.2))])) A) (lv := [(0, .ref h0), (1, .int l1), (2, .int l2)]) (by decide) rfl (Nat.le_of_ble_eq_true rfl) rfl ?_
  intro p e s m below meth c A ls hx hb hr hml hh hg hown hlocks hnm hK hA hP hD0 hAw hS hl
  have hD := zD hD0 hAw
  exact (a_MM_join hx hb hr hml hh hg hown hlocks hK hA n).1 h0_draft_firstPart_all_c h0_draft_nextPart_all_c 0   _ _ _ hF q_h0_draft q_h0_draft_firstPart q_h0_draft_nextPart q_h0_draft_firstPart_all q_h0_draft_nextPart_all hP hD hS hl
def f_MM_isOperand (h0_kinds_all_n : Nat) (l1 : Int32) (h0_kinds_all_c : Nat → Int32) : Option (Int32) := Option.bind (f_MM_word1 h0_kinds_all_n l1 h0_kinds_all_c) (fun o1 => if (o1 : Int32) = 2 then some (1) else Option.bind (f_MM_word1 h0_kinds_all_n l1 h0_kinds_all_c) (fun o2 => if (o2 : Int32) = 1 then some (1) else Option.bind (f_MM_word1 h0_kinds_all_n l1 h0_kinds_all_c) (fun o3 => if (o3 : Int32) = 12 then some (1) else Option.bind (f_MM_word1 h0_kinds_all_n l1 h0_kinds_all_c) (fun o4 => if (o4 : Int32) = 13 then some (1) else Option.bind (f_MM_word1 h0_kinds_all_n l1 h0_kinds_all_c) (fun o5 => if ¬ (o5 : Int32) = 37 then some (0) else some (1))))))
set_option maxHeartbeats 4000000 in
set_option maxRecDepth 100000 in
theorem b_MM_isOperand_0 {p : Program} {l : Launch} {e : Env} {s : State} {m : MethodId} {args : Array Value} {below : List Frame} {meth : Method} {c : Code} {D : va_G} {tA : Nat → ClassId} {A : Nat → Prop} {h0 h0_kinds h0_kinds_all : Nat} {f0_h0 f0_h0_kinds : List Value} {h0_kinds_all_n : Nat} {l1 : Int32} {h0_kinds_all_c : Nat → Int32} {out : Int32} (hx : p.tables.exec = Jvm.exec) (hb : c.code = prog_15_method_34_code) (hr : meth.sig.returnType = (Option.some Jvm.ClassFile.FieldType.boolean)) (hml : c.maxLocals = 2) (hh : zH s) (hg : ∀ w ∈ lw_R, w.before args s = true) (hown : s.vm.findClass "ChanceArenaModel" = some m.cls) (hlocks : meth.locks = false) (hK : va_K D vwCl (zT tA) s) (hA : ∀ q, s.heap.size ≤ q → A q)  : ∀ (H : Heap) (locs : List Loc) (ls : Array Slot), f_MM_isOperand h0_kinds_all_n l1 h0_kinds_all_c = some out → f0_h0[3]? = some (.ref h0_kinds) → f0_h0_kinds[0]? = some (.ref h0_kinds_all) → va_P D vwCl [(h0, .inr (13, f0_h0)), (h0_kinds, .inr (14, f0_h0_kinds)), (h0_kinds_all, .inl (tA 0, h0_kinds_all_n, .inl h0_kinds_all_c))] H → va_D A [(h0, .inr (13, f0_h0)), (h0_kinds, .inr (14, f0_h0_kinds)), (h0_kinds_all, .inl (tA 0, h0_kinds_all_n, .inl h0_kinds_all_c))] → va_S A s.heap H locs → lv_has ls 2 [(0, .ref h0), (1, .int l1)] → W p l e { frames := 2, cells := 0, slots := 0, locals := 42 } s m args below meth c H locs 0 0 (MQ below (va_Qi (fun (r9 : Int32) (u9 : Unit) => r9 = out) (zPost D A (fun (u9 : Unit) => [(h0, .inr (13, f0_h0)), (h0_kinds, .inr (14, f0_h0_kinds)), (h0_kinds_all, .inl (tA 0, h0_kinds_all_n, .inl h0_kinds_all_c))])) A) args s 0 0 A) (F0 m 0 ls []) := by
  intro    H locs ls hF q_h0_kinds q_h0_kinds_all hP hD hS hl
  replace hF : ((Option.bind (f_MM_word1 h0_kinds_all_n l1 h0_kinds_all_c) (fun o1 => if (o1 : Int32) = 2 then some (1) else Option.bind (f_MM_word1 h0_kinds_all_n l1 h0_kinds_all_c) (fun o2 => if (o2 : Int32) = 1 then some (1) else Option.bind (f_MM_word1 h0_kinds_all_n l1 h0_kinds_all_c) (fun o3 => if (o3 : Int32) = 12 then some (1) else Option.bind (f_MM_word1 h0_kinds_all_n l1 h0_kinds_all_c) (fun o4 => if (o4 : Int32) = 13 then some (1) else Option.bind (f_MM_word1 h0_kinds_all_n l1 h0_kinds_all_c) (fun o5 => if ¬ (o5 : Int32) = 37 then some (0) else some (1))))))) : Option (Int32)) = some out := hF
  refine lv_aload_n hx hb d_MM_isOperand_0 rfl (lv_at hl 0 rfl) ?_
  refine lv_iload_n hx hb d_MM_isOperand_1 rfl (lv_at hl 1 rfl) ?_
  obtain ⟨o1, h1, hF⟩ := bsome hF
  refine zCalli (wc := [(h0, .inr (13, f0_h0)), (h0_kinds, .inr (14, f0_h0_kinds)), (h0_kinds_all, .inl (tA 0, h0_kinds_all_n, .inl h0_kinds_all_c))]) (wr := []) hP hD hS hA [0, 1, 2] [] rfl rfl (by decide) (by decide) (va_runV (As := [.int l1]) (rest := []) ⟨hx, hb, hml, hown, hg⟩ (m_MM_word1 l D tA _ h0 h0_kinds h0_kinds_all f0_h0 f0_h0_kinds h0_kinds_all_n l1 h0_kinds_all_c q_h0_kinds q_h0_kinds_all o1 h1) (zV 1 hg k11_93 k11_95 ks_MM_word1 k1_14 k11_96 rfl rfl (by decide +kernel) ⟨(Nat.le_of_ble_eq_true rfl), (Nat.le_of_ble_eq_true rfl)⟩) (zPreV hh hK hP hD [0, 1, 2] (by decide) rfl (ci := 13) rfl 0 rfl) rfl rfl hl.1 rfl (lv_room (Nat.le_of_ble_eq_true rfl)) d_MM_isOperand_2 ⟨(Nat.le_of_ble_eq_true rfl), (Nat.le_of_ble_eq_true rfl)⟩) (fun r1 u1 H1 locs1 e1 hP1 hD1 hS1 => ?_)
  clear hP hD hS
  refine W.cs (cells' := 0) (slots' := 0) rfl rfl ?_
  have x1 := e1
  rw [x1]
  replace hP1 : va_P D vwCl [(h0, .inr (13, f0_h0)), (h0_kinds, .inr (14, f0_h0_kinds)), (h0_kinds_all, .inl (tA 0, h0_kinds_all_n, .inl h0_kinds_all_c))] _ := hP1
  replace hD1 : va_D A [(h0, .inr (13, f0_h0)), (h0_kinds, .inr (14, f0_h0_kinds)), (h0_kinds_all, .inl (tA 0, h0_kinds_all_n, .inl h0_kinds_all_c))] := hD1
  refine lv_iconst (v := 2) hx hb d_MM_isOperand_5 (by decide) ?_
  refine lv_icmp_eq (tgt := 48) hx hb d_MM_isOperand_6 (by decide) (fun c9 => ?_) (fun c9 => ?_)
  · replace hF := ifp c9 hF
    refine lv_iconst (v := 1) hx hb d_MM_isOperand_48 (by decide) ?_
    refine lv_goto (tgt := 53) hx hb d_MM_isOperand_49 (by decide) ?_
    replace hF := Option.some.inj hF
    subst hF
    exact zZret (post := (fun (r9 : Int32) (u9 : Unit) => r9 = 1)) (W1 := (fun (u9 : Unit) => [(h0, .inr (13, f0_h0)), (h0_kinds, .inr (14, f0_h0_kinds)), (h0_kinds_all, .inl (tA 0, h0_kinds_all_n, .inl h0_kinds_all_c))])) (v := 1) hx hb hr rfl hlocks hP1 hD1 hS1 () rfl rfl d_MM_isOperand_53
  · replace hF := ifn c9 hF
    refine lv_aload_n hx hb d_MM_isOperand_9 rfl (lv_at hl 0 rfl) ?_
    refine lv_iload_n hx hb d_MM_isOperand_10 rfl (lv_at hl 1 rfl) ?_
    obtain ⟨o2, h2, hF⟩ := bsome hF
    refine zCalli (wc := [(h0, .inr (13, f0_h0)), (h0_kinds, .inr (14, f0_h0_kinds)), (h0_kinds_all, .inl (tA 0, h0_kinds_all_n, .inl h0_kinds_all_c))]) (wr := []) hP1 hD1 hS1 hA [0, 1, 2] [] rfl rfl (by decide) (by decide) (va_runV (As := [.int l1]) (rest := []) ⟨hx, hb, hml, hown, hg⟩ (m_MM_word1 l D tA _ h0 h0_kinds h0_kinds_all f0_h0 f0_h0_kinds h0_kinds_all_n l1 h0_kinds_all_c q_h0_kinds q_h0_kinds_all o2 h2) (zV 1 hg k11_93 k11_95 ks_MM_word1 k1_14 k11_96 rfl rfl (by decide +kernel) ⟨(Nat.le_of_ble_eq_true rfl), (Nat.le_of_ble_eq_true rfl)⟩) (zPreV hh hK hP1 hD1 [0, 1, 2] (by decide) rfl (ci := 13) rfl 0 rfl) rfl rfl hl.1 rfl (lv_room (Nat.le_of_ble_eq_true rfl)) d_MM_isOperand_11 ⟨(Nat.le_of_ble_eq_true rfl), (Nat.le_of_ble_eq_true rfl)⟩) (fun r2 u2 H2 locs2 e2 hP2 hD2 hS2 => ?_)
    clear hP1 hD1 hS1
    refine W.cs (cells' := 0) (slots' := 0) rfl rfl ?_
    have x2 := e2
    rw [x2]
    replace hP2 : va_P D vwCl [(h0, .inr (13, f0_h0)), (h0_kinds, .inr (14, f0_h0_kinds)), (h0_kinds_all, .inl (tA 0, h0_kinds_all_n, .inl h0_kinds_all_c))] _ := hP2
    replace hD2 : va_D A [(h0, .inr (13, f0_h0)), (h0_kinds, .inr (14, f0_h0_kinds)), (h0_kinds_all, .inl (tA 0, h0_kinds_all_n, .inl h0_kinds_all_c))] := hD2
    refine lv_iconst (v := 1) hx hb d_MM_isOperand_14 (by decide) ?_
    refine lv_icmp_eq (tgt := 48) hx hb d_MM_isOperand_15 (by decide) (fun c9 => ?_) (fun c9 => ?_)
    · replace hF := ifp c9 hF
      refine lv_iconst (v := 1) hx hb d_MM_isOperand_48 (by decide) ?_
      refine lv_goto (tgt := 53) hx hb d_MM_isOperand_49 (by decide) ?_
      replace hF := Option.some.inj hF
      subst hF
      exact zZret (post := (fun (r9 : Int32) (u9 : Unit) => r9 = 1)) (W1 := (fun (u9 : Unit) => [(h0, .inr (13, f0_h0)), (h0_kinds, .inr (14, f0_h0_kinds)), (h0_kinds_all, .inl (tA 0, h0_kinds_all_n, .inl h0_kinds_all_c))])) (v := 1) hx hb hr rfl hlocks hP2 hD2 hS2 () rfl rfl d_MM_isOperand_53
    · replace hF := ifn c9 hF
      refine lv_aload_n hx hb d_MM_isOperand_18 rfl (lv_at hl 0 rfl) ?_
      refine lv_iload_n hx hb d_MM_isOperand_19 rfl (lv_at hl 1 rfl) ?_
      obtain ⟨o3, h3, hF⟩ := bsome hF
      refine zCalli (wc := [(h0, .inr (13, f0_h0)), (h0_kinds, .inr (14, f0_h0_kinds)), (h0_kinds_all, .inl (tA 0, h0_kinds_all_n, .inl h0_kinds_all_c))]) (wr := []) hP2 hD2 hS2 hA [0, 1, 2] [] rfl rfl (by decide) (by decide) (va_runV (As := [.int l1]) (rest := []) ⟨hx, hb, hml, hown, hg⟩ (m_MM_word1 l D tA _ h0 h0_kinds h0_kinds_all f0_h0 f0_h0_kinds h0_kinds_all_n l1 h0_kinds_all_c q_h0_kinds q_h0_kinds_all o3 h3) (zV 1 hg k11_93 k11_95 ks_MM_word1 k1_14 k11_96 rfl rfl (by decide +kernel) ⟨(Nat.le_of_ble_eq_true rfl), (Nat.le_of_ble_eq_true rfl)⟩) (zPreV hh hK hP2 hD2 [0, 1, 2] (by decide) rfl (ci := 13) rfl 0 rfl) rfl rfl hl.1 rfl (lv_room (Nat.le_of_ble_eq_true rfl)) d_MM_isOperand_20 ⟨(Nat.le_of_ble_eq_true rfl), (Nat.le_of_ble_eq_true rfl)⟩) (fun r3 u3 H3 locs3 e3 hP3 hD3 hS3 => ?_)
      clear hP2 hD2 hS2
      refine W.cs (cells' := 0) (slots' := 0) rfl rfl ?_
      have x3 := e3
      rw [x3]
      replace hP3 : va_P D vwCl [(h0, .inr (13, f0_h0)), (h0_kinds, .inr (14, f0_h0_kinds)), (h0_kinds_all, .inl (tA 0, h0_kinds_all_n, .inl h0_kinds_all_c))] _ := hP3
      replace hD3 : va_D A [(h0, .inr (13, f0_h0)), (h0_kinds, .inr (14, f0_h0_kinds)), (h0_kinds_all, .inl (tA 0, h0_kinds_all_n, .inl h0_kinds_all_c))] := hD3
      refine lv_bipush (v := 12) hx hb d_MM_isOperand_23 (by decide) ?_
      refine lv_icmp_eq (tgt := 48) hx hb d_MM_isOperand_25 (by decide) (fun c9 => ?_) (fun c9 => ?_)
      · replace hF := ifp c9 hF
        refine lv_iconst (v := 1) hx hb d_MM_isOperand_48 (by decide) ?_
        refine lv_goto (tgt := 53) hx hb d_MM_isOperand_49 (by decide) ?_
        replace hF := Option.some.inj hF
        subst hF
        exact zZret (post := (fun (r9 : Int32) (u9 : Unit) => r9 = 1)) (W1 := (fun (u9 : Unit) => [(h0, .inr (13, f0_h0)), (h0_kinds, .inr (14, f0_h0_kinds)), (h0_kinds_all, .inl (tA 0, h0_kinds_all_n, .inl h0_kinds_all_c))])) (v := 1) hx hb hr rfl hlocks hP3 hD3 hS3 () rfl rfl d_MM_isOperand_53
      · replace hF := ifn c9 hF
        refine lv_aload_n hx hb d_MM_isOperand_28 rfl (lv_at hl 0 rfl) ?_
        refine lv_iload_n hx hb d_MM_isOperand_29 rfl (lv_at hl 1 rfl) ?_
        obtain ⟨o4, h4, hF⟩ := bsome hF
        refine zCalli (wc := [(h0, .inr (13, f0_h0)), (h0_kinds, .inr (14, f0_h0_kinds)), (h0_kinds_all, .inl (tA 0, h0_kinds_all_n, .inl h0_kinds_all_c))]) (wr := []) hP3 hD3 hS3 hA [0, 1, 2] [] rfl rfl (by decide) (by decide) (va_runV (As := [.int l1]) (rest := []) ⟨hx, hb, hml, hown, hg⟩ (m_MM_word1 l D tA _ h0 h0_kinds h0_kinds_all f0_h0 f0_h0_kinds h0_kinds_all_n l1 h0_kinds_all_c q_h0_kinds q_h0_kinds_all o4 h4) (zV 1 hg k11_93 k11_95 ks_MM_word1 k1_14 k11_96 rfl rfl (by decide +kernel) ⟨(Nat.le_of_ble_eq_true rfl), (Nat.le_of_ble_eq_true rfl)⟩) (zPreV hh hK hP3 hD3 [0, 1, 2] (by decide) rfl (ci := 13) rfl 0 rfl) rfl rfl hl.1 rfl (lv_room (Nat.le_of_ble_eq_true rfl)) d_MM_isOperand_30 ⟨(Nat.le_of_ble_eq_true rfl), (Nat.le_of_ble_eq_true rfl)⟩) (fun r4 u4 H4 locs4 e4 hP4 hD4 hS4 => ?_)
        clear hP3 hD3 hS3
        refine W.cs (cells' := 0) (slots' := 0) rfl rfl ?_
        have x4 := e4
        rw [x4]
        replace hP4 : va_P D vwCl [(h0, .inr (13, f0_h0)), (h0_kinds, .inr (14, f0_h0_kinds)), (h0_kinds_all, .inl (tA 0, h0_kinds_all_n, .inl h0_kinds_all_c))] _ := hP4
        replace hD4 : va_D A [(h0, .inr (13, f0_h0)), (h0_kinds, .inr (14, f0_h0_kinds)), (h0_kinds_all, .inl (tA 0, h0_kinds_all_n, .inl h0_kinds_all_c))] := hD4
        refine lv_bipush (v := 13) hx hb d_MM_isOperand_33 (by decide) ?_
        refine lv_icmp_eq (tgt := 48) hx hb d_MM_isOperand_35 (by decide) (fun c9 => ?_) (fun c9 => ?_)
        · replace hF := ifp c9 hF
          refine lv_iconst (v := 1) hx hb d_MM_isOperand_48 (by decide) ?_
          refine lv_goto (tgt := 53) hx hb d_MM_isOperand_49 (by decide) ?_
          replace hF := Option.some.inj hF
          subst hF
          exact zZret (post := (fun (r9 : Int32) (u9 : Unit) => r9 = 1)) (W1 := (fun (u9 : Unit) => [(h0, .inr (13, f0_h0)), (h0_kinds, .inr (14, f0_h0_kinds)), (h0_kinds_all, .inl (tA 0, h0_kinds_all_n, .inl h0_kinds_all_c))])) (v := 1) hx hb hr rfl hlocks hP4 hD4 hS4 () rfl rfl d_MM_isOperand_53
        · replace hF := ifn c9 hF
          refine lv_aload_n hx hb d_MM_isOperand_38 rfl (lv_at hl 0 rfl) ?_
          refine lv_iload_n hx hb d_MM_isOperand_39 rfl (lv_at hl 1 rfl) ?_
          obtain ⟨o5, h5, hF⟩ := bsome hF
          refine zCalli (wc := [(h0, .inr (13, f0_h0)), (h0_kinds, .inr (14, f0_h0_kinds)), (h0_kinds_all, .inl (tA 0, h0_kinds_all_n, .inl h0_kinds_all_c))]) (wr := []) hP4 hD4 hS4 hA [0, 1, 2] [] rfl rfl (by decide) (by decide) (va_runV (As := [.int l1]) (rest := []) ⟨hx, hb, hml, hown, hg⟩ (m_MM_word1 l D tA _ h0 h0_kinds h0_kinds_all f0_h0 f0_h0_kinds h0_kinds_all_n l1 h0_kinds_all_c q_h0_kinds q_h0_kinds_all o5 h5) (zV 1 hg k11_93 k11_95 ks_MM_word1 k1_14 k11_96 rfl rfl (by decide +kernel) ⟨(Nat.le_of_ble_eq_true rfl), (Nat.le_of_ble_eq_true rfl)⟩) (zPreV hh hK hP4 hD4 [0, 1, 2] (by decide) rfl (ci := 13) rfl 0 rfl) rfl rfl hl.1 rfl (lv_room (Nat.le_of_ble_eq_true rfl)) d_MM_isOperand_40 ⟨(Nat.le_of_ble_eq_true rfl), (Nat.le_of_ble_eq_true rfl)⟩) (fun r5 u5 H5 locs5 e5 hP5 hD5 hS5 => ?_)
          clear hP4 hD4 hS4
          refine W.cs (cells' := 0) (slots' := 0) rfl rfl ?_
          have x5 := e5
          rw [x5]
          replace hP5 : va_P D vwCl [(h0, .inr (13, f0_h0)), (h0_kinds, .inr (14, f0_h0_kinds)), (h0_kinds_all, .inl (tA 0, h0_kinds_all_n, .inl h0_kinds_all_c))] _ := hP5
          replace hD5 : va_D A [(h0, .inr (13, f0_h0)), (h0_kinds, .inr (14, f0_h0_kinds)), (h0_kinds_all, .inl (tA 0, h0_kinds_all_n, .inl h0_kinds_all_c))] := hD5
          refine lv_bipush (v := 37) hx hb d_MM_isOperand_43 (by decide) ?_
          refine lv_icmp_ne (tgt := 52) hx hb d_MM_isOperand_45 (by decide) (fun c9 => ?_) (fun c9 => ?_)
          · replace hF := ifp c9 hF
            refine lv_iconst (v := 0) hx hb d_MM_isOperand_52 (by decide) ?_
            replace hF := Option.some.inj hF
            subst hF
            exact zZret (post := (fun (r9 : Int32) (u9 : Unit) => r9 = 0)) (W1 := (fun (u9 : Unit) => [(h0, .inr (13, f0_h0)), (h0_kinds, .inr (14, f0_h0_kinds)), (h0_kinds_all, .inl (tA 0, h0_kinds_all_n, .inl h0_kinds_all_c))])) (v := 0) hx hb hr rfl hlocks hP5 hD5 hS5 () rfl rfl d_MM_isOperand_53
          · replace hF := ifn (fun h9 => h9 c9) hF
            refine lv_iconst (v := 1) hx hb d_MM_isOperand_48 (by decide) ?_
            refine lv_goto (tgt := 53) hx hb d_MM_isOperand_49 (by decide) ?_
            replace hF := Option.some.inj hF
            subst hF
            exact zZret (post := (fun (r9 : Int32) (u9 : Unit) => r9 = 1)) (W1 := (fun (u9 : Unit) => [(h0, .inr (13, f0_h0)), (h0_kinds, .inr (14, f0_h0_kinds)), (h0_kinds_all, .inl (tA 0, h0_kinds_all_n, .inl h0_kinds_all_c))])) (v := 1) hx hb hr rfl hlocks hP5 hD5 hS5 () rfl rfl d_MM_isOperand_53
set_option maxHeartbeats 4000000 in
set_option maxRecDepth 100000 in
theorem m_MM_isOperand (l : Launch) (D : va_G) (tA : Nat → ClassId) (sz : Nat) (h0 h0_kinds h0_kinds_all : Nat) (f0_h0 f0_h0_kinds : List Value) (h0_kinds_all_n : Nat) (l1 : Int32) (h0_kinds_all_c : Nat → Int32) (q_h0_kinds : f0_h0[3]? = some (.ref h0_kinds)) (q_h0_kinds_all : f0_h0_kinds[0]? = some (.ref h0_kinds_all)) (out : Int32) (hF : f_MM_isOperand h0_kinds_all_n l1 h0_kinds_all_c = some out) : zMi l ({ cls := "ChanceArenaModel", name := "isOperand", desc := "(I)Z" } : Jvm.MethodName) (zW (Jvm.Cond.code ({ cls := "ChanceArenaModel", name := "isOperand", desc := "(I)Z" } : Jvm.MethodName) prog_15_method_34_code (2 : Nat) (Option.some Jvm.ClassFile.FieldType.boolean))) { frames := 2, cells := 0, slots := 0, locals := 42 } [.ref h0, .int l1] D tA [(h0, .inr (13, f0_h0)), (h0_kinds, .inr (14, f0_h0_kinds)), (h0_kinds_all, .inl (tA 0, h0_kinds_all_n, .inl h0_kinds_all_c))] sz (fun (r9 : Int32) (u9 : Unit) => r9 = out) (fun (u9 : Unit) => [(h0, .inr (13, f0_h0)), (h0_kinds, .inr (14, f0_h0_kinds)), (h0_kinds_all, .inl (tA 0, h0_kinds_all_n, .inl h0_kinds_all_c))]) 0 0 := by
  refine zOpen (l := l) (y := ({ cls := "ChanceArenaModel", name := "isOperand", desc := "(I)Z" } : Jvm.MethodName)) (ws := zW (Jvm.Cond.code ({ cls := "ChanceArenaModel", name := "isOperand", desc := "(I)Z" } : Jvm.MethodName) prog_15_method_34_code (2 : Nat) (Option.some Jvm.ClassFile.FieldType.boolean))) (rm := { frames := 2, cells := 0, slots := 0, locals := 42 }) (av := [.ref h0, .int l1]) (D := D) (tA := tA) (W0 := [(h0, .inr (13, f0_h0)), (h0_kinds, .inr (14, f0_h0_kinds)), (h0_kinds_all, .inl (tA 0, h0_kinds_all_n, .inl h0_kinds_all_c))]) (Wm := [(h0, .inr (13, f0_h0)), (h0_kinds, .inr (14, f0_h0_kinds)), (h0_kinds_all, .inl (tA 0, h0_kinds_all_n, .inl h0_kinds_all_c))]) (sz := sz) (mc := 0) (ms := 0) (fun A => va_Qi (fun (r9 : Int32) (u9 : Unit) => r9 = out) (zPost D A (fun (u9 : Unit) => [(h0, .inr (13, f0_h0)), (h0_kinds, .inr (14, f0_h0_kinds)), (h0_kinds_all, .inl (tA 0, h0_kinds_all_n, .inl h0_kinds_all_c))])) A) (lv := [(0, .ref h0), (1, .int l1)]) (by decide) rfl (Nat.le_of_ble_eq_true rfl) rfl ?_
  intro p e s m below meth c A ls hx hb hr hml hh hg hown hlocks hnm hK hA hP hD0 hAw hS hl
  have hD := zD hD0 hAw
  exact b_MM_isOperand_0 hx hb hr hml hh hg hown hlocks hK hA    _ _ _ hF q_h0_kinds q_h0_kinds_all hP hD hS hl
def f_MM_looseness (h0_kinds_all_n : Nat) (l1 : Int32) (l2 : Int32) (h0_kinds_all_c : Nat → Int32) : Option (Int32) := Option.bind (f_MM_word1 h0_kinds_all_n l1 h0_kinds_all_c) (fun o1 => if ¬ (o1 : Int32) = 32 then (if (o1 : Int32) = 30 then (if ¬ (o1 : Int32) = 30 then some (4) else some (5)) else if ¬ (o1 : Int32) = 29 then Option.bind (f_MM_isComparison o1) (fun o2 => if (o2 : Int32) = 0 then (if (o1 : Int32) = 24 then (if (l1 : Int32) ≤ l2 then some (0) else Option.bind (f_MM_isOperand h0_kinds_all_n (l1 - 1) h0_kinds_all_c) (fun o3 => if (o3 : Int32) = 0 then some (0) else some (2))) else if ¬ (o1 : Int32) = 25 then (if (o1 : Int32) = 26 then some (1) else if (o1 : Int32) = 27 then some (1) else if ¬ (o1 : Int32) = 28 then some (0) else some (1)) else if (l1 : Int32) ≤ l2 then some (0) else Option.bind (f_MM_isOperand h0_kinds_all_n (l1 - 1) h0_kinds_all_c) (fun o4 => if (o4 : Int32) = 0 then some (0) else some (2))) else some (3)) else if ¬ (o1 : Int32) = 30 then some (4) else some (5)) else some (6))
set_option maxHeartbeats 4000000 in
set_option maxRecDepth 100000 in
theorem b_MM_looseness_0 {p : Program} {l : Launch} {e : Env} {s : State} {m : MethodId} {args : Array Value} {below : List Frame} {meth : Method} {c : Code} {D : va_G} {tA : Nat → ClassId} {A : Nat → Prop} {h0 h0_kinds h0_kinds_all : Nat} {f0_h0 f0_h0_kinds : List Value} {h0_kinds_all_n : Nat} {l1 : Int32} {l2 : Int32} {h0_kinds_all_c : Nat → Int32} {out : Int32} (hx : p.tables.exec = Jvm.exec) (hb : c.code = prog_15_method_35_code) (hr : meth.sig.returnType = (Option.some Jvm.ClassFile.FieldType.int)) (hml : c.maxLocals = 4) (hh : zH s) (hg : ∀ w ∈ lw_R, w.before args s = true) (hown : s.vm.findClass "ChanceArenaModel" = some m.cls) (hlocks : meth.locks = false) (hK : va_K D vwCl (zT tA) s) (hA : ∀ q, s.heap.size ≤ q → A q)  : ∀ (H : Heap) (locs : List Loc) (ls : Array Slot), f_MM_looseness h0_kinds_all_n l1 l2 h0_kinds_all_c = some out → f0_h0[3]? = some (.ref h0_kinds) → f0_h0_kinds[0]? = some (.ref h0_kinds_all) → va_P D vwCl [(h0, .inr (13, f0_h0)), (h0_kinds, .inr (14, f0_h0_kinds)), (h0_kinds_all, .inl (tA 0, h0_kinds_all_n, .inl h0_kinds_all_c))] H → va_D A [(h0, .inr (13, f0_h0)), (h0_kinds, .inr (14, f0_h0_kinds)), (h0_kinds_all, .inl (tA 0, h0_kinds_all_n, .inl h0_kinds_all_c))] → va_S A s.heap H locs → lv_has ls 4 [(0, .ref h0), (1, .int l1), (2, .int l2)] → W p l e { frames := 3, cells := 0, slots := 0, locals := 63 } s m args below meth c H locs 0 0 (MQ below (va_Qi (fun (r9 : Int32) (u9 : Unit) => r9 = out) (zPost D A (fun (u9 : Unit) => [(h0, .inr (13, f0_h0)), (h0_kinds, .inr (14, f0_h0_kinds)), (h0_kinds_all, .inl (tA 0, h0_kinds_all_n, .inl h0_kinds_all_c))])) A) args s 0 0 A) (F0 m 0 ls []) := by
  intro    H locs ls hF q_h0_kinds q_h0_kinds_all hP hD hS hl
  replace hF : ((Option.bind (f_MM_word1 h0_kinds_all_n l1 h0_kinds_all_c) (fun o1 => if ¬ (o1 : Int32) = 32 then (if (o1 : Int32) = 30 then (if ¬ (o1 : Int32) = 30 then some (4) else some (5)) else if ¬ (o1 : Int32) = 29 then Option.bind (f_MM_isComparison o1) (fun o2 => if (o2 : Int32) = 0 then (if (o1 : Int32) = 24 then (if (l1 : Int32) ≤ l2 then some (0) else Option.bind (f_MM_isOperand h0_kinds_all_n (l1 - 1) h0_kinds_all_c) (fun o3 => if (o3 : Int32) = 0 then some (0) else some (2))) else if ¬ (o1 : Int32) = 25 then (if (o1 : Int32) = 26 then some (1) else if (o1 : Int32) = 27 then some (1) else if ¬ (o1 : Int32) = 28 then some (0) else some (1)) else if (l1 : Int32) ≤ l2 then some (0) else Option.bind (f_MM_isOperand h0_kinds_all_n (l1 - 1) h0_kinds_all_c) (fun o4 => if (o4 : Int32) = 0 then some (0) else some (2))) else some (3)) else if ¬ (o1 : Int32) = 30 then some (4) else some (5)) else some (6))) : Option (Int32)) = some out := hF
  refine lv_aload_n hx hb d_MM_looseness_0 rfl (lv_at hl 0 rfl) ?_
  refine lv_iload_n hx hb d_MM_looseness_1 rfl (lv_at hl 1 rfl) ?_
  obtain ⟨o1, h1, hF⟩ := bsome hF
  refine zCalli (wc := [(h0, .inr (13, f0_h0)), (h0_kinds, .inr (14, f0_h0_kinds)), (h0_kinds_all, .inl (tA 0, h0_kinds_all_n, .inl h0_kinds_all_c))]) (wr := []) hP hD hS hA [0, 1, 2] [] rfl rfl (by decide) (by decide) (va_runV (As := [.int l1]) (rest := []) ⟨hx, hb, hml, hown, hg⟩ (m_MM_word1 l D tA _ h0 h0_kinds h0_kinds_all f0_h0 f0_h0_kinds h0_kinds_all_n l1 h0_kinds_all_c q_h0_kinds q_h0_kinds_all o1 h1) (zV 1 hg k11_93 k11_95 ks_MM_word1 k1_14 k11_96 rfl rfl (by decide +kernel) ⟨(Nat.le_of_ble_eq_true rfl), (Nat.le_of_ble_eq_true rfl)⟩) (zPreV hh hK hP hD [0, 1, 2] (by decide) rfl (ci := 13) rfl 0 rfl) rfl rfl hl.1 rfl (lv_room (Nat.le_of_ble_eq_true rfl)) d_MM_looseness_2 ⟨(Nat.le_of_ble_eq_true rfl), (Nat.le_of_ble_eq_true rfl)⟩) (fun r1 u1 H1 locs1 e1 hP1 hD1 hS1 => ?_)
  clear hP hD hS
  refine W.cs (cells' := 0) (slots' := 0) rfl rfl ?_
  have x1 := e1
  rw [x1]
  replace hP1 : va_P D vwCl [(h0, .inr (13, f0_h0)), (h0_kinds, .inr (14, f0_h0_kinds)), (h0_kinds_all, .inl (tA 0, h0_kinds_all_n, .inl h0_kinds_all_c))] _ := hP1
  replace hD1 : va_D A [(h0, .inr (13, f0_h0)), (h0_kinds, .inr (14, f0_h0_kinds)), (h0_kinds_all, .inl (tA 0, h0_kinds_all_n, .inl h0_kinds_all_c))] := hD1
  refine lv_istore_n (lv' := [(3, .int o1), (0, .ref h0), (1, .int l1), (2, .int l2)]) hx hb d_MM_looseness_5 rfl hl (by decide) rfl (fun ls hl => ?_)
  refine lv_iload_n hx hb d_MM_looseness_6 rfl (lv_at hl 0 rfl) ?_
  refine lv_bipush (v := 32) hx hb d_MM_looseness_7 (by decide) ?_
  refine lv_icmp_ne (tgt := 15) hx hb d_MM_looseness_9 (by decide) (fun c9 => ?_) (fun c9 => ?_)
  · replace hF := ifp c9 hF
    refine lv_iload_n hx hb d_MM_looseness_15 rfl (lv_at hl 0 rfl) ?_
    refine lv_bipush (v := 30) hx hb d_MM_looseness_16 (by decide) ?_
    refine lv_icmp_eq (tgt := 27) hx hb d_MM_looseness_18 (by decide) (fun c9 => ?_) (fun c9 => ?_)
    · replace hF := ifp c9 hF
      refine lv_iload_n hx hb d_MM_looseness_27 rfl (lv_at hl 0 rfl) ?_
      refine lv_bipush (v := 30) hx hb d_MM_looseness_28 (by decide) ?_
      refine lv_icmp_ne (tgt := 37) hx hb d_MM_looseness_30 (by decide) (fun c9 => ?_) (fun c9 => ?_)
      · replace hF := ifp c9 hF
        refine lv_iconst (v := 4) hx hb d_MM_looseness_37 (by decide) ?_
        replace hF := Option.some.inj hF
        subst hF
        exact zZret (post := (fun (r9 : Int32) (u9 : Unit) => r9 = 4)) (W1 := (fun (u9 : Unit) => [(h0, .inr (13, f0_h0)), (h0_kinds, .inr (14, f0_h0_kinds)), (h0_kinds_all, .inl (tA 0, h0_kinds_all_n, .inl h0_kinds_all_c))])) (v := 4) hx hb hr rfl hlocks hP1 hD1 hS1 () rfl rfl d_MM_looseness_38
      · replace hF := ifn (fun h9 => h9 c9) hF
        refine lv_iconst (v := 5) hx hb d_MM_looseness_33 (by decide) ?_
        refine lv_goto (tgt := 38) hx hb d_MM_looseness_34 (by decide) ?_
        replace hF := Option.some.inj hF
        subst hF
        exact zZret (post := (fun (r9 : Int32) (u9 : Unit) => r9 = 5)) (W1 := (fun (u9 : Unit) => [(h0, .inr (13, f0_h0)), (h0_kinds, .inr (14, f0_h0_kinds)), (h0_kinds_all, .inl (tA 0, h0_kinds_all_n, .inl h0_kinds_all_c))])) (v := 5) hx hb hr rfl hlocks hP1 hD1 hS1 () rfl rfl d_MM_looseness_38
    · replace hF := ifn c9 hF
      refine lv_iload_n hx hb d_MM_looseness_21 rfl (lv_at hl 0 rfl) ?_
      refine lv_bipush (v := 29) hx hb d_MM_looseness_22 (by decide) ?_
      refine lv_icmp_ne (tgt := 39) hx hb d_MM_looseness_24 (by decide) (fun c9 => ?_) (fun c9 => ?_)
      · replace hF := ifp c9 hF
        refine lv_iload_n hx hb d_MM_looseness_39 rfl (lv_at hl 0 rfl) ?_
        obtain ⟨o2, h2, hF⟩ := bsome hF
        refine zCalli (wc := []) (wr := [(h0, .inr (13, f0_h0)), (h0_kinds, .inr (14, f0_h0_kinds)), (h0_kinds_all, .inl (tA 0, h0_kinds_all_n, .inl h0_kinds_all_c))]) hP1 hD1 hS1 hA [] [0, 1, 2] rfl rfl (by decide) (by decide) (va_runS (As := [.int o1]) (rest := []) ⟨hx, hb, hml, hown, hg⟩ (m_MM_isComparison l D tA _   o1  o2 h2) (zVS 1 hg k11_74 k11_75 k1_14 k11_76 rfl rfl (by decide +kernel) ⟨(Nat.le_of_ble_eq_true rfl), (Nat.le_of_ble_eq_true rfl)⟩) (zPreS hh hK hP1 hD1 [] (by decide) rfl) rfl rfl hl.1 rfl (lv_room (Nat.le_of_ble_eq_true rfl)) d_MM_looseness_40 ⟨(Nat.le_of_ble_eq_true rfl), (Nat.le_of_ble_eq_true rfl)⟩) (fun r2 u2 H2 locs2 e2 hP2 hD2 hS2 => ?_)
        clear hP1 hD1 hS1
        refine W.cs (cells' := 0) (slots' := 0) rfl rfl ?_
        have x2 := e2
        rw [x2]
        replace hP2 : va_P D vwCl [(h0, .inr (13, f0_h0)), (h0_kinds, .inr (14, f0_h0_kinds)), (h0_kinds_all, .inl (tA 0, h0_kinds_all_n, .inl h0_kinds_all_c))] _ := hP2
        replace hD2 : va_D A [(h0, .inr (13, f0_h0)), (h0_kinds, .inr (14, f0_h0_kinds)), (h0_kinds_all, .inl (tA 0, h0_kinds_all_n, .inl h0_kinds_all_c))] := hD2
        refine lv_if_eq (tgt := 48) hx hb d_MM_looseness_43 (by decide) (fun c9 => ?_) (fun c9 => ?_)
        · replace hF := ifp c9 hF
          refine lv_iload_n hx hb d_MM_looseness_48 rfl (lv_at hl 0 rfl) ?_
          refine lv_bipush (v := 24) hx hb d_MM_looseness_49 (by decide) ?_
          refine lv_icmp_eq (tgt := 60) hx hb d_MM_looseness_51 (by decide) (fun c9 => ?_) (fun c9 => ?_)
          · replace hF := ifp c9 hF
            refine lv_iload_n hx hb d_MM_looseness_60 rfl (lv_at hl 2 rfl) ?_
            refine lv_iload_n hx hb d_MM_looseness_61 rfl (lv_at hl 3 rfl) ?_
            refine lv_icmp_le (tgt := 79) hx hb d_MM_looseness_62 (by decide) (fun c9 => ?_) (fun c9 => ?_)
            · replace hF := ifp c9 hF
              refine lv_iconst (v := 0) hx hb d_MM_looseness_79 (by decide) ?_
              replace hF := Option.some.inj hF
              subst hF
              exact zZret (post := (fun (r9 : Int32) (u9 : Unit) => r9 = 0)) (W1 := (fun (u9 : Unit) => [(h0, .inr (13, f0_h0)), (h0_kinds, .inr (14, f0_h0_kinds)), (h0_kinds_all, .inl (tA 0, h0_kinds_all_n, .inl h0_kinds_all_c))])) (v := 0) hx hb hr rfl hlocks hP2 hD2 hS2 () rfl rfl d_MM_looseness_80
            · replace hF := ifn c9 hF
              refine lv_aload_n hx hb d_MM_looseness_65 rfl (lv_at hl 1 rfl) ?_
              refine lv_iload_n hx hb d_MM_looseness_66 rfl (lv_at hl 2 rfl) ?_
              refine lv_iconst (v := 1) hx hb d_MM_looseness_67 (by decide) ?_
              refine lv_isub hx hb d_MM_looseness_68 ?_
              obtain ⟨o3, h3, hF⟩ := bsome hF
              refine zCalli (wc := [(h0, .inr (13, f0_h0)), (h0_kinds, .inr (14, f0_h0_kinds)), (h0_kinds_all, .inl (tA 0, h0_kinds_all_n, .inl h0_kinds_all_c))]) (wr := []) hP2 hD2 hS2 hA [0, 1, 2] [] rfl rfl (by decide) (by decide) (va_runV (As := [.int (l1 - 1)]) (rest := []) ⟨hx, hb, hml, hown, hg⟩ (m_MM_isOperand l D tA _ h0 h0_kinds h0_kinds_all f0_h0 f0_h0_kinds h0_kinds_all_n (l1 - 1) h0_kinds_all_c q_h0_kinds q_h0_kinds_all o3 h3) (zV 1 hg k11_137 k11_139 ks_MM_isOperand k1_14 k11_140 rfl rfl (by decide +kernel) ⟨(Nat.le_of_ble_eq_true rfl), (Nat.le_of_ble_eq_true rfl)⟩) (zPreV hh hK hP2 hD2 [0, 1, 2] (by decide) rfl (ci := 13) rfl 0 rfl) rfl rfl hl.1 rfl (lv_room (Nat.le_of_ble_eq_true rfl)) d_MM_looseness_69 ⟨(Nat.le_of_ble_eq_true rfl), (Nat.le_of_ble_eq_true rfl)⟩) (fun r3 u3 H3 locs3 e3 hP3 hD3 hS3 => ?_)
              clear hP2 hD2 hS2
              refine W.cs (cells' := 0) (slots' := 0) rfl rfl ?_
              have x3 := e3
              rw [x3]
              replace hP3 : va_P D vwCl [(h0, .inr (13, f0_h0)), (h0_kinds, .inr (14, f0_h0_kinds)), (h0_kinds_all, .inl (tA 0, h0_kinds_all_n, .inl h0_kinds_all_c))] _ := hP3
              replace hD3 : va_D A [(h0, .inr (13, f0_h0)), (h0_kinds, .inr (14, f0_h0_kinds)), (h0_kinds_all, .inl (tA 0, h0_kinds_all_n, .inl h0_kinds_all_c))] := hD3
              refine lv_if_eq (tgt := 79) hx hb d_MM_looseness_72 (by decide) (fun c9 => ?_) (fun c9 => ?_)
              · replace hF := ifp c9 hF
                refine lv_iconst (v := 0) hx hb d_MM_looseness_79 (by decide) ?_
                replace hF := Option.some.inj hF
                subst hF
                exact zZret (post := (fun (r9 : Int32) (u9 : Unit) => r9 = 0)) (W1 := (fun (u9 : Unit) => [(h0, .inr (13, f0_h0)), (h0_kinds, .inr (14, f0_h0_kinds)), (h0_kinds_all, .inl (tA 0, h0_kinds_all_n, .inl h0_kinds_all_c))])) (v := 0) hx hb hr rfl hlocks hP3 hD3 hS3 () rfl rfl d_MM_looseness_80
              · replace hF := ifn c9 hF
                refine lv_iconst (v := 2) hx hb d_MM_looseness_75 (by decide) ?_
                refine lv_goto (tgt := 80) hx hb d_MM_looseness_76 (by decide) ?_
                replace hF := Option.some.inj hF
                subst hF
                exact zZret (post := (fun (r9 : Int32) (u9 : Unit) => r9 = 2)) (W1 := (fun (u9 : Unit) => [(h0, .inr (13, f0_h0)), (h0_kinds, .inr (14, f0_h0_kinds)), (h0_kinds_all, .inl (tA 0, h0_kinds_all_n, .inl h0_kinds_all_c))])) (v := 2) hx hb hr rfl hlocks hP3 hD3 hS3 () rfl rfl d_MM_looseness_80
          · replace hF := ifn c9 hF
            refine lv_iload_n hx hb d_MM_looseness_54 rfl (lv_at hl 0 rfl) ?_
            refine lv_bipush (v := 25) hx hb d_MM_looseness_55 (by decide) ?_
            refine lv_icmp_ne (tgt := 81) hx hb d_MM_looseness_57 (by decide) (fun c9 => ?_) (fun c9 => ?_)
            · replace hF := ifp c9 hF
              refine lv_iload_n hx hb d_MM_looseness_81 rfl (lv_at hl 0 rfl) ?_
              refine lv_bipush (v := 26) hx hb d_MM_looseness_82 (by decide) ?_
              refine lv_icmp_eq (tgt := 99) hx hb d_MM_looseness_84 (by decide) (fun c9 => ?_) (fun c9 => ?_)
              · replace hF := ifp c9 hF
                refine lv_iconst (v := 1) hx hb d_MM_looseness_99 (by decide) ?_
                refine lv_goto (tgt := 104) hx hb d_MM_looseness_100 (by decide) ?_
                replace hF := Option.some.inj hF
                subst hF
                exact zZret (post := (fun (r9 : Int32) (u9 : Unit) => r9 = 1)) (W1 := (fun (u9 : Unit) => [(h0, .inr (13, f0_h0)), (h0_kinds, .inr (14, f0_h0_kinds)), (h0_kinds_all, .inl (tA 0, h0_kinds_all_n, .inl h0_kinds_all_c))])) (v := 1) hx hb hr rfl hlocks hP2 hD2 hS2 () rfl rfl d_MM_looseness_104
              · replace hF := ifn c9 hF
                refine lv_iload_n hx hb d_MM_looseness_87 rfl (lv_at hl 0 rfl) ?_
                refine lv_bipush (v := 27) hx hb d_MM_looseness_88 (by decide) ?_
                refine lv_icmp_eq (tgt := 99) hx hb d_MM_looseness_90 (by decide) (fun c9 => ?_) (fun c9 => ?_)
                · replace hF := ifp c9 hF
                  refine lv_iconst (v := 1) hx hb d_MM_looseness_99 (by decide) ?_
                  refine lv_goto (tgt := 104) hx hb d_MM_looseness_100 (by decide) ?_
                  replace hF := Option.some.inj hF
                  subst hF
                  exact zZret (post := (fun (r9 : Int32) (u9 : Unit) => r9 = 1)) (W1 := (fun (u9 : Unit) => [(h0, .inr (13, f0_h0)), (h0_kinds, .inr (14, f0_h0_kinds)), (h0_kinds_all, .inl (tA 0, h0_kinds_all_n, .inl h0_kinds_all_c))])) (v := 1) hx hb hr rfl hlocks hP2 hD2 hS2 () rfl rfl d_MM_looseness_104
                · replace hF := ifn c9 hF
                  refine lv_iload_n hx hb d_MM_looseness_93 rfl (lv_at hl 0 rfl) ?_
                  refine lv_bipush (v := 28) hx hb d_MM_looseness_94 (by decide) ?_
                  refine lv_icmp_ne (tgt := 103) hx hb d_MM_looseness_96 (by decide) (fun c9 => ?_) (fun c9 => ?_)
                  · replace hF := ifp c9 hF
                    refine lv_iconst (v := 0) hx hb d_MM_looseness_103 (by decide) ?_
                    replace hF := Option.some.inj hF
                    subst hF
                    exact zZret (post := (fun (r9 : Int32) (u9 : Unit) => r9 = 0)) (W1 := (fun (u9 : Unit) => [(h0, .inr (13, f0_h0)), (h0_kinds, .inr (14, f0_h0_kinds)), (h0_kinds_all, .inl (tA 0, h0_kinds_all_n, .inl h0_kinds_all_c))])) (v := 0) hx hb hr rfl hlocks hP2 hD2 hS2 () rfl rfl d_MM_looseness_104
                  · replace hF := ifn (fun h9 => h9 c9) hF
                    refine lv_iconst (v := 1) hx hb d_MM_looseness_99 (by decide) ?_
                    refine lv_goto (tgt := 104) hx hb d_MM_looseness_100 (by decide) ?_
                    replace hF := Option.some.inj hF
                    subst hF
                    exact zZret (post := (fun (r9 : Int32) (u9 : Unit) => r9 = 1)) (W1 := (fun (u9 : Unit) => [(h0, .inr (13, f0_h0)), (h0_kinds, .inr (14, f0_h0_kinds)), (h0_kinds_all, .inl (tA 0, h0_kinds_all_n, .inl h0_kinds_all_c))])) (v := 1) hx hb hr rfl hlocks hP2 hD2 hS2 () rfl rfl d_MM_looseness_104
            · replace hF := ifn (fun h9 => h9 c9) hF
              refine lv_iload_n hx hb d_MM_looseness_60 rfl (lv_at hl 2 rfl) ?_
              refine lv_iload_n hx hb d_MM_looseness_61 rfl (lv_at hl 3 rfl) ?_
              refine lv_icmp_le (tgt := 79) hx hb d_MM_looseness_62 (by decide) (fun c9 => ?_) (fun c9 => ?_)
              · replace hF := ifp c9 hF
                refine lv_iconst (v := 0) hx hb d_MM_looseness_79 (by decide) ?_
                replace hF := Option.some.inj hF
                subst hF
                exact zZret (post := (fun (r9 : Int32) (u9 : Unit) => r9 = 0)) (W1 := (fun (u9 : Unit) => [(h0, .inr (13, f0_h0)), (h0_kinds, .inr (14, f0_h0_kinds)), (h0_kinds_all, .inl (tA 0, h0_kinds_all_n, .inl h0_kinds_all_c))])) (v := 0) hx hb hr rfl hlocks hP2 hD2 hS2 () rfl rfl d_MM_looseness_80
              · replace hF := ifn c9 hF
                refine lv_aload_n hx hb d_MM_looseness_65 rfl (lv_at hl 1 rfl) ?_
                refine lv_iload_n hx hb d_MM_looseness_66 rfl (lv_at hl 2 rfl) ?_
                refine lv_iconst (v := 1) hx hb d_MM_looseness_67 (by decide) ?_
                refine lv_isub hx hb d_MM_looseness_68 ?_
                obtain ⟨o4, h4, hF⟩ := bsome hF
                refine zCalli (wc := [(h0, .inr (13, f0_h0)), (h0_kinds, .inr (14, f0_h0_kinds)), (h0_kinds_all, .inl (tA 0, h0_kinds_all_n, .inl h0_kinds_all_c))]) (wr := []) hP2 hD2 hS2 hA [0, 1, 2] [] rfl rfl (by decide) (by decide) (va_runV (As := [.int (l1 - 1)]) (rest := []) ⟨hx, hb, hml, hown, hg⟩ (m_MM_isOperand l D tA _ h0 h0_kinds h0_kinds_all f0_h0 f0_h0_kinds h0_kinds_all_n (l1 - 1) h0_kinds_all_c q_h0_kinds q_h0_kinds_all o4 h4) (zV 1 hg k11_137 k11_139 ks_MM_isOperand k1_14 k11_140 rfl rfl (by decide +kernel) ⟨(Nat.le_of_ble_eq_true rfl), (Nat.le_of_ble_eq_true rfl)⟩) (zPreV hh hK hP2 hD2 [0, 1, 2] (by decide) rfl (ci := 13) rfl 0 rfl) rfl rfl hl.1 rfl (lv_room (Nat.le_of_ble_eq_true rfl)) d_MM_looseness_69 ⟨(Nat.le_of_ble_eq_true rfl), (Nat.le_of_ble_eq_true rfl)⟩) (fun r4 u4 H3 locs3 e4 hP3 hD3 hS3 => ?_)
                clear hP2 hD2 hS2
                refine W.cs (cells' := 0) (slots' := 0) rfl rfl ?_
                have x4 := e4
                rw [x4]
                replace hP3 : va_P D vwCl [(h0, .inr (13, f0_h0)), (h0_kinds, .inr (14, f0_h0_kinds)), (h0_kinds_all, .inl (tA 0, h0_kinds_all_n, .inl h0_kinds_all_c))] _ := hP3
                replace hD3 : va_D A [(h0, .inr (13, f0_h0)), (h0_kinds, .inr (14, f0_h0_kinds)), (h0_kinds_all, .inl (tA 0, h0_kinds_all_n, .inl h0_kinds_all_c))] := hD3
                refine lv_if_eq (tgt := 79) hx hb d_MM_looseness_72 (by decide) (fun c9 => ?_) (fun c9 => ?_)
                · replace hF := ifp c9 hF
                  refine lv_iconst (v := 0) hx hb d_MM_looseness_79 (by decide) ?_
                  replace hF := Option.some.inj hF
                  subst hF
                  exact zZret (post := (fun (r9 : Int32) (u9 : Unit) => r9 = 0)) (W1 := (fun (u9 : Unit) => [(h0, .inr (13, f0_h0)), (h0_kinds, .inr (14, f0_h0_kinds)), (h0_kinds_all, .inl (tA 0, h0_kinds_all_n, .inl h0_kinds_all_c))])) (v := 0) hx hb hr rfl hlocks hP3 hD3 hS3 () rfl rfl d_MM_looseness_80
                · replace hF := ifn c9 hF
                  refine lv_iconst (v := 2) hx hb d_MM_looseness_75 (by decide) ?_
                  refine lv_goto (tgt := 80) hx hb d_MM_looseness_76 (by decide) ?_
                  replace hF := Option.some.inj hF
                  subst hF
                  exact zZret (post := (fun (r9 : Int32) (u9 : Unit) => r9 = 2)) (W1 := (fun (u9 : Unit) => [(h0, .inr (13, f0_h0)), (h0_kinds, .inr (14, f0_h0_kinds)), (h0_kinds_all, .inl (tA 0, h0_kinds_all_n, .inl h0_kinds_all_c))])) (v := 2) hx hb hr rfl hlocks hP3 hD3 hS3 () rfl rfl d_MM_looseness_80
        · replace hF := ifn c9 hF
          refine lv_iconst (v := 3) hx hb d_MM_looseness_46 (by decide) ?_
          replace hF := Option.some.inj hF
          subst hF
          exact zZret (post := (fun (r9 : Int32) (u9 : Unit) => r9 = 3)) (W1 := (fun (u9 : Unit) => [(h0, .inr (13, f0_h0)), (h0_kinds, .inr (14, f0_h0_kinds)), (h0_kinds_all, .inl (tA 0, h0_kinds_all_n, .inl h0_kinds_all_c))])) (v := 3) hx hb hr rfl hlocks hP2 hD2 hS2 () rfl rfl d_MM_looseness_47
      · replace hF := ifn (fun h9 => h9 c9) hF
        refine lv_iload_n hx hb d_MM_looseness_27 rfl (lv_at hl 0 rfl) ?_
        refine lv_bipush (v := 30) hx hb d_MM_looseness_28 (by decide) ?_
        refine lv_icmp_ne (tgt := 37) hx hb d_MM_looseness_30 (by decide) (fun c9 => ?_) (fun c9 => ?_)
        · replace hF := ifp c9 hF
          refine lv_iconst (v := 4) hx hb d_MM_looseness_37 (by decide) ?_
          replace hF := Option.some.inj hF
          subst hF
          exact zZret (post := (fun (r9 : Int32) (u9 : Unit) => r9 = 4)) (W1 := (fun (u9 : Unit) => [(h0, .inr (13, f0_h0)), (h0_kinds, .inr (14, f0_h0_kinds)), (h0_kinds_all, .inl (tA 0, h0_kinds_all_n, .inl h0_kinds_all_c))])) (v := 4) hx hb hr rfl hlocks hP1 hD1 hS1 () rfl rfl d_MM_looseness_38
        · replace hF := ifn (fun h9 => h9 c9) hF
          refine lv_iconst (v := 5) hx hb d_MM_looseness_33 (by decide) ?_
          refine lv_goto (tgt := 38) hx hb d_MM_looseness_34 (by decide) ?_
          replace hF := Option.some.inj hF
          subst hF
          exact zZret (post := (fun (r9 : Int32) (u9 : Unit) => r9 = 5)) (W1 := (fun (u9 : Unit) => [(h0, .inr (13, f0_h0)), (h0_kinds, .inr (14, f0_h0_kinds)), (h0_kinds_all, .inl (tA 0, h0_kinds_all_n, .inl h0_kinds_all_c))])) (v := 5) hx hb hr rfl hlocks hP1 hD1 hS1 () rfl rfl d_MM_looseness_38
  · replace hF := ifn (fun h9 => h9 c9) hF
    refine lv_bipush (v := 6) hx hb d_MM_looseness_12 (by decide) ?_
    replace hF := Option.some.inj hF
    subst hF
    exact zZret (post := (fun (r9 : Int32) (u9 : Unit) => r9 = 6)) (W1 := (fun (u9 : Unit) => [(h0, .inr (13, f0_h0)), (h0_kinds, .inr (14, f0_h0_kinds)), (h0_kinds_all, .inl (tA 0, h0_kinds_all_n, .inl h0_kinds_all_c))])) (v := 6) hx hb hr rfl hlocks hP1 hD1 hS1 () rfl rfl d_MM_looseness_14
set_option maxHeartbeats 4000000 in
set_option maxRecDepth 100000 in
theorem m_MM_looseness (l : Launch) (D : va_G) (tA : Nat → ClassId) (sz : Nat) (h0 h0_kinds h0_kinds_all : Nat) (f0_h0 f0_h0_kinds : List Value) (h0_kinds_all_n : Nat) (l1 : Int32) (l2 : Int32) (h0_kinds_all_c : Nat → Int32) (q_h0_kinds : f0_h0[3]? = some (.ref h0_kinds)) (q_h0_kinds_all : f0_h0_kinds[0]? = some (.ref h0_kinds_all)) (out : Int32) (hF : f_MM_looseness h0_kinds_all_n l1 l2 h0_kinds_all_c = some out) : zMi l ({ cls := "ChanceArenaModel", name := "looseness", desc := "(II)I" } : Jvm.MethodName) (zW (Jvm.Cond.code ({ cls := "ChanceArenaModel", name := "looseness", desc := "(II)I" } : Jvm.MethodName) prog_15_method_35_code (4 : Nat) (Option.some Jvm.ClassFile.FieldType.int))) { frames := 3, cells := 0, slots := 0, locals := 63 } [.ref h0, .int l1, .int l2] D tA [(h0, .inr (13, f0_h0)), (h0_kinds, .inr (14, f0_h0_kinds)), (h0_kinds_all, .inl (tA 0, h0_kinds_all_n, .inl h0_kinds_all_c))] sz (fun (r9 : Int32) (u9 : Unit) => r9 = out) (fun (u9 : Unit) => [(h0, .inr (13, f0_h0)), (h0_kinds, .inr (14, f0_h0_kinds)), (h0_kinds_all, .inl (tA 0, h0_kinds_all_n, .inl h0_kinds_all_c))]) 0 0 := by
  refine zOpen (l := l) (y := ({ cls := "ChanceArenaModel", name := "looseness", desc := "(II)I" } : Jvm.MethodName)) (ws := zW (Jvm.Cond.code ({ cls := "ChanceArenaModel", name := "looseness", desc := "(II)I" } : Jvm.MethodName) prog_15_method_35_code (4 : Nat) (Option.some Jvm.ClassFile.FieldType.int))) (rm := { frames := 3, cells := 0, slots := 0, locals := 63 }) (av := [.ref h0, .int l1, .int l2]) (D := D) (tA := tA) (W0 := [(h0, .inr (13, f0_h0)), (h0_kinds, .inr (14, f0_h0_kinds)), (h0_kinds_all, .inl (tA 0, h0_kinds_all_n, .inl h0_kinds_all_c))]) (Wm := [(h0, .inr (13, f0_h0)), (h0_kinds, .inr (14, f0_h0_kinds)), (h0_kinds_all, .inl (tA 0, h0_kinds_all_n, .inl h0_kinds_all_c))]) (sz := sz) (mc := 0) (ms := 0) (fun A => va_Qi (fun (r9 : Int32) (u9 : Unit) => r9 = out) (zPost D A (fun (u9 : Unit) => [(h0, .inr (13, f0_h0)), (h0_kinds, .inr (14, f0_h0_kinds)), (h0_kinds_all, .inl (tA 0, h0_kinds_all_n, .inl h0_kinds_all_c))])) A) (lv := [(0, .ref h0), (1, .int l1), (2, .int l2)]) (by decide) rfl (Nat.le_of_ble_eq_true rfl) rfl ?_
  intro p e s m below meth c A ls hx hb hr hml hh hg hown hlocks hnm hK hA hP hD0 hAw hS hl
  have hD := zD hD0 hAw
  exact b_MM_looseness_0 hx hb hr hml hh hg hown hlocks hK hA    _ _ _ hF q_h0_kinds q_h0_kinds_all hP hD hS hl
