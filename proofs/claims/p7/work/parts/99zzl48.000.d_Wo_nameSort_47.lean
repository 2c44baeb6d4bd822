theorem kt_spL : (Jvm.Cond.methodLink "ChanceArena$Words" (74 : Nat) ({ cls := "ChanceArena$Words", name := "spells", desc := "(ILjava/lang/String;)Z" } : Jvm.MethodName)) ∈ lw_R := zR (zk_4 _ (List.mem_of_getElem? (i := 55) rfl)) rfl
theorem kt_spI : (Jvm.Cond.instanceMethod ({ cls := "ChanceArena$Words", name := "spells", desc := "(ILjava/lang/String;)Z" } : Jvm.MethodName)) ∈ lw_R := zR (zk_4 _ (List.mem_of_getElem? (i := 57) rfl)) rfl
theorem kt_spC : (Jvm.Cond.code ({ cls := "ChanceArena$Words", name := "spells", desc := "(ILjava/lang/String;)Z" } : Jvm.MethodName) prog_13_method_14_code (4 : Nat) (Option.some Jvm.ClassFile.FieldType.boolean)) ∈ lw_R := zR (zk_4 _ (List.mem_of_getElem? (i := 58) rfl)) rfl
theorem kt_isL : (Jvm.Cond.methodLink "ChanceArenaModel" (178 : Nat) ({ cls := "ChanceArenaModel", name := "is", desc := "(IILjava/lang/String;)Z" } : Jvm.MethodName)) ∈ lw_R := zR (zk_11 _ (List.mem_of_getElem? (i := 43) rfl)) rfl
theorem kt_isI : (Jvm.Cond.instanceMethod ({ cls := "ChanceArenaModel", name := "is", desc := "(IILjava/lang/String;)Z" } : Jvm.MethodName)) ∈ lw_R := zR (zk_11 _ (List.mem_of_getElem? (i := 45) rfl)) rfl
theorem kt_isC : (Jvm.Cond.code ({ cls := "ChanceArenaModel", name := "is", desc := "(IILjava/lang/String;)Z" } : Jvm.MethodName) prog_15_method_11_code (6 : Nat) (Option.some Jvm.ClassFile.FieldType.boolean)) ∈ lw_R := zR (zk_11 _ (List.mem_of_getElem? (i := 46) rfl)) rfl
theorem ks_Wo_spells : Cond.selects "ChanceArena$Words" y_Wo_spells.1 y_Wo_spells.1 ∈ lw_R := zR (List.mem_append_left _ (List.mem_of_getElem? (i := 7) rfl)) rfl
theorem ks_MM_is : Cond.selects "ChanceArenaModel" y_MM_is.1 y_MM_is.1 ∈ lw_R := zR (List.mem_append_left _ (List.mem_of_getElem? (i := 84) rfl)) rfl
theorem d_Wo_spells_0 : decode y_Wo_spells.2.1 0 = .ok (.iconst 0, 1) := dc9_3 (by decide +kernel)
theorem d_Wo_spells_1 : decode y_Wo_spells.2.1 1 = .ok (.istore_n 3, 1) := dc9_62 (by decide +kernel)
theorem d_Wo_spells_2 : decode y_Wo_spells.2.1 2 = .ok (.iload_n 3, 1) := dc9_29 (by decide +kernel)
theorem d_Wo_spells_3 : decode y_Wo_spells.2.1 3 = .ok (.aload_n 2, 1) := dc9_44 (by decide +kernel)
theorem d_Wo_spells_4 : decode y_Wo_spells.2.1 4 = .ok (.invokevirtual 102, 3) := dc9_182 (by decide +kernel)
theorem d_Wo_spells_7 : decode y_Wo_spells.2.1 7 = .ok (.if_icmp .ge 27, 3) := dc9_162 (by decide +kernel)
theorem d_Wo_spells_10 : decode y_Wo_spells.2.1 10 = .ok (.aload_n 0, 1) := dc9_42 (by decide +kernel)
theorem d_Wo_spells_11 : decode y_Wo_spells.2.1 11 = .ok (.getfield 9, 3) := dc9_180 (by decide +kernel)
theorem d_Wo_spells_14 : decode y_Wo_spells.2.1 14 = .ok (.iload_n 1, 1) := dc9_27 (by decide +kernel)
theorem d_Wo_spells_15 : decode y_Wo_spells.2.1 15 = .ok (.iload_n 3, 1) := dc9_29 (by decide +kernel)
theorem d_Wo_spells_16 : decode y_Wo_spells.2.1 16 = .ok (.iadd, 1) := dc9_96 (by decide +kernel)
theorem d_Wo_spells_17 : decode y_Wo_spells.2.1 17 = .ok (.caload, 1) := dc9_52 (by decide +kernel)
theorem d_Wo_spells_18 : decode y_Wo_spells.2.1 18 = .ok (.aload_n 2, 1) := dc9_44 (by decide +kernel)
theorem d_Wo_spells_19 : decode y_Wo_spells.2.1 19 = .ok (.iload_n 3, 1) := dc9_29 (by decide +kernel)
theorem d_Wo_spells_20 : decode y_Wo_spells.2.1 20 = .ok (.invokevirtual 107, 3) := dc9_182 (by decide +kernel)
theorem d_Wo_spells_23 : decode y_Wo_spells.2.1 23 = .ok (.if_icmp .eq 5, 3) := dc9_159 (by decide +kernel)
theorem d_Wo_spells_26 : decode y_Wo_spells.2.1 26 = .ok (.iconst 0, 1) := dc9_3 (by decide +kernel)
theorem d_Wo_spells_27 : decode y_Wo_spells.2.1 27 = .ok (.ireturn, 1) := dc9_172 (by decide +kernel)
theorem d_Wo_spells_28 : decode y_Wo_spells.2.1 28 = .ok (.iinc 3 1, 3) := by decide +kernel
theorem d_Wo_spells_31 : decode y_Wo_spells.2.1 31 = .ok (.goto (-29), 3) := dc9_167 (by decide +kernel)
theorem d_Wo_spells_34 : decode y_Wo_spells.2.1 34 = .ok (.iconst 1, 1) := dc9_4 (by decide +kernel)
theorem d_Wo_spells_35 : decode y_Wo_spells.2.1 35 = .ok (.ireturn, 1) := dc9_172 (by decide +kernel)
theorem d_Wo_nameSort_0 : decode y_Wo_nameSort.2.1 0 = .ok (.iload_n 2, 1) := dc9_28 (by decide +kernel)
theorem d_Wo_nameSort_1 : decode y_Wo_nameSort.2.1 1 = .ok (.tableswitch 238 3 7 #[35, 81, 158, 204, 221], 35) := by decide +kernel
theorem d_Wo_nameSort_36 : decode y_Wo_nameSort.2.1 36 = .ok (.aload_n 0, 1) := dc9_42 (by decide +kernel)
theorem d_Wo_nameSort_37 : decode y_Wo_nameSort.2.1 37 = .ok (.iload_n 1, 1) := dc9_27 (by decide +kernel)
theorem d_Wo_nameSort_38 : decode y_Wo_nameSort.2.1 38 = .ok (.ldc 72, 2) := dc9_18 (by decide +kernel)
theorem d_Wo_nameSort_40 : decode y_Wo_nameSort.2.1 40 = .ok (.invokevirtual 74, 3) := dc9_182 (by decide +kernel)
theorem d_Wo_nameSort_43 : decode y_Wo_nameSort.2.1 43 = .ok (.ifCond .eq 7, 3) := dc9_153 (by decide +kernel)
theorem d_Wo_nameSort_46 : decode y_Wo_nameSort.2.1 46 = .ok (.iconst 5, 1) := dc9_8 (by decide +kernel)
theorem d_Wo_nameSort_47 : decode y_Wo_nameSort.2.1 47 = .ok (.goto 34, 3) := dc9_167 (by decide +kernel)
