theorem k9_10 : (Jvm.Cond.fieldLinkNest "ChanceArenaModel" (145 : Nat) "ChanceArenaModel$Numbers" "size" "I" "ChanceArenaModel") ∈ lw_R := zR (zk_9 _ (List.mem_of_getElem? (i := 10) (by decide +kernel))) rfl
theorem k9_225 : (Jvm.Cond.fieldLink "ChanceArenaModel$Solver" (103 : Nat) "ChanceArenaModel$Solver" "states" "I") ∈ lw_R := zR (zk_9 _ (List.mem_of_getElem? (i := 225) (by decide +kernel))) rfl
theorem k10_129 : (Jvm.Cond.fieldLink "ChanceArenaModel" (609 : Nat) "ChanceArenaModel" "printedSize" "I") ∈ lw_R := zR (zk_10 _ (List.mem_of_getElem? (i := 129) (by decide +kernel))) rfl
theorem k11_8 : (Jvm.Cond.code ({ cls := "ChanceArenaModel", name := "end", desc := "(I)I" } : Jvm.MethodName) prog_15_method_5_code (2 : Nat) (Option.some Jvm.ClassFile.FieldType.int)) ∈ lw_R := zR (zk_11 _ (List.mem_of_getElem? (i := 8) (by decide +kernel))) rfl
theorem k13_170 : (Jvm.Cond.code ({ cls := "ChanceArenaModel", name := "adopt", desc := "()V" } : Jvm.MethodName) prog_15_method_101_code (1 : Nat) (Option.none : Option Jvm.ClassFile.FieldType)) ∈ lw_R := zR (zk_13 _ (List.mem_of_getElem? (i := 170) (by decide +kernel))) rfl
theorem k13_171 : (Jvm.Cond.methodLink "ChanceArenaModel" (593 : Nat) ({ cls := "ChanceArenaModel$Solver", name := "hasValues", desc := "()Z" } : Jvm.MethodName)) ∈ lw_R := zR (zk_13 _ (List.mem_of_getElem? (i := 171) (by decide +kernel))) rfl
theorem k13_172 : (Jvm.Cond.instanceMethod ({ cls := "ChanceArenaModel$Solver", name := "hasValues", desc := "()Z" } : Jvm.MethodName)) ∈ lw_R := zR (zk_13 _ (List.mem_of_getElem? (i := 172) (by decide +kernel))) rfl
theorem k13_173 : (Jvm.Cond.selects "ChanceArenaModel$Solver" ({ cls := "ChanceArenaModel$Solver", name := "hasValues", desc := "()Z" } : Jvm.MethodName) ({ cls := "ChanceArenaModel$Solver", name := "hasValues", desc := "()Z" } : Jvm.MethodName)) ∈ lw_R := zR (zk_13 _ (List.mem_of_getElem? (i := 173) (by decide +kernel))) rfl
theorem k13_174 : (Jvm.Cond.code ({ cls := "ChanceArenaModel$Solver", name := "hasValues", desc := "()Z" } : Jvm.MethodName) prog_19_method_41_code (1 : Nat) (Option.some Jvm.ClassFile.FieldType.boolean)) ∈ lw_R := zR (zk_13 _ (List.mem_of_getElem? (i := 174) (by decide +kernel))) rfl
theorem k13_190 : (Jvm.Cond.code ({ cls := "ChanceArenaModel", name := "print", desc := "(II)I" } : Jvm.MethodName) prog_15_method_103_code (3 : Nat) (Option.some Jvm.ClassFile.FieldType.int)) ∈ lw_R := zR (zk_13 _ (List.mem_of_getElem? (i := 190) (by decide +kernel))) rfl
theorem k13_191 : (Jvm.Cond.methodLink "ChanceArenaModel" (602 : Nat) ({ cls := "ChanceArenaModel$Solver", name := "isThere", desc := "(II)Z" } : Jvm.MethodName)) ∈ lw_R := zR (zk_13 _ (List.mem_of_getElem? (i := 191) (by decide +kernel))) rfl
theorem k13_192 : (Jvm.Cond.instanceMethod ({ cls := "ChanceArenaModel$Solver", name := "isThere", desc := "(II)Z" } : Jvm.MethodName)) ∈ lw_R := zR (zk_13 _ (List.mem_of_getElem? (i := 192) (by decide +kernel))) rfl
theorem k13_193 : (Jvm.Cond.selects "ChanceArenaModel$Solver" ({ cls := "ChanceArenaModel$Solver", name := "isThere", desc := "(II)Z" } : Jvm.MethodName) ({ cls := "ChanceArenaModel$Solver", name := "isThere", desc := "(II)Z" } : Jvm.MethodName)) ∈ lw_R := zR (zk_13 _ (List.mem_of_getElem? (i := 193) (by decide +kernel))) rfl
theorem k13_194 : (Jvm.Cond.code ({ cls := "ChanceArenaModel$Solver", name := "isThere", desc := "(II)Z" } : Jvm.MethodName) prog_19_method_33_code (3 : Nat) (Option.some Jvm.ClassFile.FieldType.boolean)) ∈ lw_R := zR (zk_13 _ (List.mem_of_getElem? (i := 194) (by decide +kernel))) rfl
theorem k13_215 : (Jvm.Cond.code ({ cls := "ChanceArenaModel", name := "character", desc := "(I)I" } : Jvm.MethodName) prog_15_method_104_code (2 : Nat) (Option.some Jvm.ClassFile.FieldType.int)) ∈ lw_R := zR (zk_13 _ (List.mem_of_getElem? (i := 215) (by decide +kernel))) rfl
theorem k13_219 : (Jvm.Cond.code ({ cls := "ChanceArenaModel", name := "compare", desc := "(IIII)I" } : Jvm.MethodName) prog_15_method_105_code (5 : Nat) (Option.some Jvm.ClassFile.FieldType.int)) ∈ lw_R := zR (zk_13 _ (List.mem_of_getElem? (i := 219) (by decide +kernel))) rfl
theorem k13_227 : (Jvm.Cond.code ({ cls := "ChanceArenaModel", name := "billionths", desc := "(II)I" } : Jvm.MethodName) prog_15_method_106_code (3 : Nat) (Option.some Jvm.ClassFile.FieldType.int)) ∈ lw_R := zR (zk_13 _ (List.mem_of_getElem? (i := 227) (by decide +kernel))) rfl
theorem k14_26 : (Jvm.Cond.code ({ cls := "ChanceArenaModel", name := "check", desc := "()I" } : Jvm.MethodName) prog_15_method_110_code (1 : Nat) (Option.some Jvm.ClassFile.FieldType.int)) ∈ lw_R := zR (zk_14 _ (List.mem_of_getElem? (i := 26) (by decide +kernel))) rfl
theorem d_MS_isThere_0 : decode prog_19_method_33_code 0 = .ok (.iload_n 1, 1) := dc9_27 (by decide +kernel)
theorem d_MS_isThere_1 : decode prog_19_method_33_code 1 = .ok (.ifCond .lt 33, 3) := dc9_155 (by decide +kernel)
theorem d_MS_isThere_34 : decode prog_19_method_33_code 34 = .ok (.iconst 0, 1) := dc9_3 (by decide +kernel)
theorem d_MS_isThere_35 : decode prog_19_method_33_code 35 = .ok (.ireturn, 1) := dc9_172 (by decide +kernel)
theorem d_MS_isThere_4 : decode prog_19_method_33_code 4 = .ok (.iload_n 1, 1) := dc9_27 (by decide +kernel)
theorem d_MS_isThere_5 : decode prog_19_method_33_code 5 = .ok (.aload_n 0, 1) := dc9_42 (by decide +kernel)
theorem d_MS_isThere_6 : decode prog_19_method_33_code 6 = .ok (.getfield 103, 3) := dc9_180 (by decide +kernel)
theorem d_MS_isThere_9 : decode prog_19_method_33_code 9 = .ok (.if_icmp .ge 25, 3) := dc9_162 (by decide +kernel)
theorem d_MS_hasValues_0 : decode prog_19_method_41_code 0 = .ok (.aload_n 0, 1) := dc9_42 (by decide +kernel)
theorem d_MS_hasValues_1 : decode prog_19_method_41_code 1 = .ok (.getfield 44, 3) := dc9_180 (by decide +kernel)
theorem d_MS_hasValues_4 : decode prog_19_method_41_code 4 = .ok (.iconst 0, 1) := dc9_3 (by decide +kernel)
theorem d_MS_hasValues_5 : decode prog_19_method_41_code 5 = .ok (.baload, 1) := dc9_51 (by decide +kernel)
theorem d_MS_hasValues_6 : decode prog_19_method_41_code 6 = .ok (.ireturn, 1) := dc9_172 (by decide +kernel)
theorem d_MM_print_0 : decode prog_15_method_103_code 0 = .ok (.aload_n 0, 1) := dc9_42 (by decide +kernel)
theorem d_MM_print_1 : decode prog_15_method_103_code 1 = .ok (.iconst 0, 1) := dc9_3 (by decide +kernel)
theorem d_MM_print_2 : decode prog_15_method_103_code 2 = .ok (.putfield 142, 3) := dc9_181 (by decide +kernel)
theorem d_MM_print_5 : decode prog_15_method_103_code 5 = .ok (.aload_n 0, 1) := dc9_42 (by decide +kernel)
theorem d_MM_print_6 : decode prog_15_method_103_code 6 = .ok (.getfield 117, 3) := dc9_180 (by decide +kernel)
theorem d_MM_print_9 : decode prog_15_method_103_code 9 = .ok (.iload_n 1, 1) := dc9_27 (by decide +kernel)
theorem d_MM_print_10 : decode prog_15_method_103_code 10 = .ok (.iload_n 2, 1) := dc9_28 (by decide +kernel)
theorem d_MM_print_11 : decode prog_15_method_103_code 11 = .ok (.invokevirtual 602, 3) := dc9_182 (by decide +kernel)
theorem d_MM_print_14 : decode prog_15_method_103_code 14 = .ok (.ifCond .ne 5, 3) := dc9_154 (by decide +kernel)
theorem d_MM_print_17 : decode prog_15_method_103_code 17 = .ok (.iconst (-1), 1) := dc9_2 (by decide +kernel)
theorem d_MM_print_18 : decode prog_15_method_103_code 18 = .ok (.ireturn, 1) := dc9_172 (by decide +kernel)
theorem d_MM_billionths_0 : decode prog_15_method_106_code 0 = .ok (.aload_n 0, 1) := dc9_42 (by decide +kernel)
theorem d_MM_billionths_1 : decode prog_15_method_106_code 1 = .ok (.iconst 0, 1) := dc9_3 (by decide +kernel)
theorem d_MM_billionths_2 : decode prog_15_method_106_code 2 = .ok (.putfield 142, 3) := dc9_181 (by decide +kernel)
theorem d_MM_billionths_5 : decode prog_15_method_106_code 5 = .ok (.aload_n 0, 1) := dc9_42 (by decide +kernel)
theorem d_MM_billionths_6 : decode prog_15_method_106_code 6 = .ok (.getfield 117, 3) := dc9_180 (by decide +kernel)
theorem d_MM_billionths_9 : decode prog_15_method_106_code 9 = .ok (.iload_n 1, 1) := dc9_27 (by decide +kernel)
theorem d_MM_billionths_10 : decode prog_15_method_106_code 10 = .ok (.iload_n 2, 1) := dc9_28 (by decide +kernel)
theorem d_MM_billionths_11 : decode prog_15_method_106_code 11 = .ok (.invokevirtual 602, 3) := dc9_182 (by decide +kernel)
theorem d_MM_billionths_14 : decode prog_15_method_106_code 14 = .ok (.ifCond .eq 15, 3) := dc9_153 (by decide +kernel)
theorem d_MM_billionths_29 : decode prog_15_method_106_code 29 = .ok (.iconst (-1), 1) := dc9_2 (by decide +kernel)
theorem d_MM_billionths_30 : decode prog_15_method_106_code 30 = .ok (.ireturn, 1) := dc9_172 (by decide +kernel)
theorem d_MM_compare_0 : decode prog_15_method_105_code 0 = .ok (.aload_n 0, 1) := dc9_42 (by decide +kernel)
theorem d_MM_compare_1 : decode prog_15_method_105_code 1 = .ok (.iconst 0, 1) := dc9_3 (by decide +kernel)
theorem d_MM_compare_2 : decode prog_15_method_105_code 2 = .ok (.putfield 142, 3) := dc9_181 (by decide +kernel)
theorem d_MM_compare_5 : decode prog_15_method_105_code 5 = .ok (.aload_n 0, 1) := dc9_42 (by decide +kernel)
theorem d_MM_compare_6 : decode prog_15_method_105_code 6 = .ok (.getfield 117, 3) := dc9_180 (by decide +kernel)
theorem d_MM_compare_9 : decode prog_15_method_105_code 9 = .ok (.iload_n 1, 1) := dc9_27 (by decide +kernel)
theorem d_MM_compare_10 : decode prog_15_method_105_code 10 = .ok (.iload_n 2, 1) := dc9_28 (by decide +kernel)
theorem d_MM_compare_11 : decode prog_15_method_105_code 11 = .ok (.invokevirtual 602, 3) := dc9_182 (by decide +kernel)
theorem d_MM_compare_14 : decode prog_15_method_105_code 14 = .ok (.ifCond .eq 31, 3) := dc9_153 (by decide +kernel)
theorem d_MM_compare_45 : decode prog_15_method_105_code 45 = .ok (.bipush (-2), 2) := dc9_16 (by decide +kernel)
theorem d_MM_compare_47 : decode prog_15_method_105_code 47 = .ok (.ireturn, 1) := dc9_172 (by decide +kernel)
theorem d_MM_check_0 : decode prog_15_method_110_code 0 = .ok (.aload_n 0, 1) := dc9_42 (by decide +kernel)
theorem d_MM_check_1 : decode prog_15_method_110_code 1 = .ok (.iconst 0, 1) := dc9_3 (by decide +kernel)
theorem d_MM_check_2 : decode prog_15_method_110_code 2 = .ok (.putfield 142, 3) := dc9_181 (by decide +kernel)
theorem d_MM_check_5 : decode prog_15_method_110_code 5 = .ok (.aload_n 0, 1) := dc9_42 (by decide +kernel)
theorem d_MM_check_6 : decode prog_15_method_110_code 6 = .ok (.getfield 117, 3) := dc9_180 (by decide +kernel)
theorem d_MM_check_9 : decode prog_15_method_110_code 9 = .ok (.invokevirtual 593, 3) := dc9_182 (by decide +kernel)
theorem d_MM_check_12 : decode prog_15_method_110_code 12 = .ok (.ifCond .eq 7, 3) := dc9_153 (by decide +kernel)
theorem d_MM_check_19 : decode prog_15_method_110_code 19 = .ok (.iconst (-1), 1) := dc9_2 (by decide +kernel)
theorem d_MM_check_20 : decode prog_15_method_110_code 20 = .ok (.ireturn, 1) := dc9_172 (by decide +kernel)
theorem d_MM_adopt_0 : decode prog_15_method_101_code 0 = .ok (.aload_n 0, 1) := dc9_42 (by decide +kernel)
theorem d_MM_adopt_1 : decode prog_15_method_101_code 1 = .ok (.aload_n 0, 1) := dc9_42 (by decide +kernel)
theorem d_MM_adopt_2 : decode prog_15_method_101_code 2 = .ok (.getfield 117, 3) := dc9_180 (by decide +kernel)
theorem d_MM_adopt_5 : decode prog_15_method_101_code 5 = .ok (.invokevirtual 593, 3) := dc9_182 (by decide +kernel)
theorem d_MM_adopt_8 : decode prog_15_method_101_code 8 = .ok (.ifCond .eq 7, 3) := dc9_153 (by decide +kernel)
theorem d_MM_adopt_15 : decode prog_15_method_101_code 15 = .ok (.iconst 1, 1) := dc9_4 (by decide +kernel)
theorem d_MM_adopt_16 : decode prog_15_method_101_code 16 = .ok (.putfield 142, 3) := dc9_181 (by decide +kernel)
theorem d_MM_adopt_19 : decode prog_15_method_101_code 19 = .ok (.aload_n 0, 1) := dc9_42 (by decide +kernel)
theorem d_MM_adopt_20 : decode prog_15_method_101_code 20 = .ok (.getfield 142, 3) := dc9_180 (by decide +kernel)
theorem d_MM_adopt_23 : decode prog_15_method_101_code 23 = .ok (.ifCond .ne 10, 3) := dc9_154 (by decide +kernel)
theorem d_MM_adopt_33 : decode prog_15_method_101_code 33 = .ok (.return_, 1) := dc9_177 (by decide +kernel)
theorem d_MM_end_0 : decode prog_15_method_5_code 0 = .ok (.aload_n 0, 1) := dc9_42 (by decide +kernel)
theorem d_MM_end_1 : decode prog_15_method_5_code 1 = .ok (.iload_n 1, 1) := dc9_27 (by decide +kernel)
theorem d_MM_end_2 : decode prog_15_method_5_code 2 = .ok (.ifCond .lt 21, 3) := dc9_155 (by decide +kernel)
theorem d_MM_end_23 : decode prog_15_method_5_code 23 = .ok (.iconst 1, 1) := dc9_4 (by decide +kernel)
theorem d_MM_end_24 : decode prog_15_method_5_code 24 = .ok (.goto 4, 3) := dc9_167 (by decide +kernel)
theorem d_MM_end_28 : decode prog_15_method_5_code 28 = .ok (.putfield 142, 3) := dc9_181 (by decide +kernel)
theorem d_MM_end_31 : decode prog_15_method_5_code 31 = .ok (.aload_n 0, 1) := dc9_42 (by decide +kernel)
theorem d_MM_end_32 : decode prog_15_method_5_code 32 = .ok (.getfield 142, 3) := dc9_180 (by decide +kernel)
theorem d_MM_end_35 : decode prog_15_method_5_code 35 = .ok (.ifCond .le 5, 3) := dc9_158 (by decide +kernel)
theorem d_MM_end_38 : decode prog_15_method_5_code 38 = .ok (.iconst 0, 1) := dc9_3 (by decide +kernel)
theorem d_MM_end_39 : decode prog_15_method_5_code 39 = .ok (.ireturn, 1) := dc9_172 (by decide +kernel)
theorem d_MM_end_5 : decode prog_15_method_5_code 5 = .ok (.iload_n 1, 1) := dc9_27 (by decide +kernel)
theorem d_MM_end_6 : decode prog_15_method_5_code 6 = .ok (.bipush 20, 2) := dc9_16 (by decide +kernel)
theorem d_MM_end_8 : decode prog_15_method_5_code 8 = .ok (.if_icmp .gt 15, 3) := dc9_163 (by decide +kernel)
theorem d_MM_end_11 : decode prog_15_method_5_code 11 = .ok (.aload_n 0, 1) := dc9_42 (by decide +kernel)
theorem d_MM_end_12 : decode prog_15_method_5_code 12 = .ok (.getfield 10, 3) := dc9_180 (by decide +kernel)
theorem d_MM_end_15 : decode prog_15_method_5_code 15 = .ok (.getfield 145, 3) := dc9_180 (by decide +kernel)
theorem d_MM_end_18 : decode prog_15_method_5_code 18 = .ok (.bipush 20, 2) := dc9_16 (by decide +kernel)
theorem d_MM_end_20 : decode prog_15_method_5_code 20 = .ok (.if_icmp .ge 7, 3) := dc9_162 (by decide +kernel)
theorem d_MM_character_0 : decode prog_15_method_104_code 0 = .ok (.aload_n 0, 1) := dc9_42 (by decide +kernel)
theorem d_MM_character_1 : decode prog_15_method_104_code 1 = .ok (.iconst 0, 1) := dc9_3 (by decide +kernel)
theorem d_MM_character_2 : decode prog_15_method_104_code 2 = .ok (.putfield 142, 3) := dc9_181 (by decide +kernel)
theorem d_MM_character_5 : decode prog_15_method_104_code 5 = .ok (.iload_n 1, 1) := dc9_27 (by decide +kernel)
theorem d_MM_character_6 : decode prog_15_method_104_code 6 = .ok (.ifCond .lt 20, 3) := dc9_155 (by decide +kernel)
theorem d_MM_character_26 : decode prog_15_method_104_code 26 = .ok (.iconst (-1), 1) := dc9_2 (by decide +kernel)
theorem d_MM_character_27 : decode prog_15_method_104_code 27 = .ok (.ireturn, 1) := dc9_172 (by decide +kernel)
theorem d_MM_character_9 : decode prog_15_method_104_code 9 = .ok (.iload_n 1, 1) := dc9_27 (by decide +kernel)
theorem d_MM_character_10 : decode prog_15_method_104_code 10 = .ok (.aload_n 0, 1) := dc9_42 (by decide +kernel)
theorem d_MM_character_11 : decode prog_15_method_104_code 11 = .ok (.getfield 609, 3) := dc9_180 (by decide +kernel)
theorem d_MM_character_14 : decode prog_15_method_104_code 14 = .ok (.if_icmp .ge 12, 3) := dc9_162 (by decide +kernel)
set_option maxHeartbeats 4000000 in
set_option maxRecDepth 100000 in
theorem c_MS_isThere_0 (l : Launch) (D : va_G) (tA : Nat → ClassId) (sz : Nat) (h0 : Nat) (fs : List Value) (k w : Int32) (hv : fs[1]? = some (.int 0)) : zMp l ({ cls := "ChanceArenaModel$Solver", name := "isThere", desc := "(II)Z" } : Jvm.MethodName) (zW (Jvm.Cond.code ({ cls := "ChanceArenaModel$Solver", name := "isThere", desc := "(II)Z" } : Jvm.MethodName) prog_19_method_33_code (3 : Nat) (Option.some Jvm.ClassFile.FieldType.boolean))) { frames := 0, cells := 0, slots := 0, locals := 0 } [.ref h0, .int k, .int w] D tA [(h0, .inr (16, fs))] sz (fun r => r = 0) := by
  refine zOpen (Wm := []) (fun A => va_Qi (fun r (_ : Unit) => (fun r => r = 0) r) (fun _ _ => True) A) (lv := [(0, .ref h0), (1, .int k), (2, .int w)]) (by decide) rfl (Nat.le_of_ble_eq_true rfl) rfl ?_
  intro p e s m below meth c A ls hx hb hr hml hh hg hown hlocks hnm hK hA hP hD0 hAw hS hl
  refine lv_iload_n hx hb d_MS_isThere_0 rfl (lv_at hl 1 rfl) ?_
  refine lv_if_lt (tgt := 34) hx hb d_MS_isThere_1 (by decide) (fun c1 => ?_) (fun c1 => ?_)
  · refine lv_iconst (v := 0) hx hb d_MS_isThere_34 (by decide) ?_
    exact zPret (post := fun r => r = 0) (v := 0) hx hb hr rfl hlocks hS (rfl) d_MS_isThere_35
  · refine lv_iload_n hx hb d_MS_isThere_4 rfl (lv_at hl 1 rfl) ?_
    refine lv_aload_n hx hb d_MS_isThere_5 rfl (lv_at hl 0 rfl) ?_
    refine va_get (D := D) (ci := 16) (v := .int 0) (C := R_MS) (T := T_MS) (N := 32) hx hb hg i_MS hown hK hP 0 rfl rfl 1 (by decide) (hg _ k9_225) (fun _ h9 => h9) hv d_MS_isThere_6 ?_
    refine lv_icmp_ge (tgt := 34) hx hb d_MS_isThere_9 (by decide) (fun c9 => ?_) (fun c9 => absurd (Int32.not_lt.mp c1) c9)
    refine lv_iconst (v := 0) hx hb d_MS_isThere_34 (by decide) ?_
    exact zPret (post := fun r => r = 0) (v := 0) hx hb hr rfl hlocks hS (rfl) d_MS_isThere_35
set_option maxHeartbeats 4000000 in
set_option maxRecDepth 100000 in
theorem c_MS_hasValues_0 (l : Launch) (D : va_G) (tA : Nat → ClassId) (sz : Nat) (h0 ha : Nat) (fs : List Value) (hv : fs[12]? = some (.ref ha)) : zMp l ({ cls := "ChanceArenaModel$Solver", name := "hasValues", desc := "()Z" } : Jvm.MethodName) (zW (Jvm.Cond.code ({ cls := "ChanceArenaModel$Solver", name := "hasValues", desc := "()Z" } : Jvm.MethodName) prog_19_method_41_code (1 : Nat) (Option.some Jvm.ClassFile.FieldType.boolean))) { frames := 0, cells := 0, slots := 0, locals := 0 } [.ref h0] D tA [(h0, .inr (16, fs)), (ha, .inl (tA 1, 3, .inl (fun _ => 0)))] sz (fun r => r = 0) := by
  refine zOpen (Wm := []) (fun A => va_Qi (fun r (_ : Unit) => (fun r => r = 0) r) (fun _ _ => True) A) (lv := [(0, .ref h0)]) (by decide) rfl (Nat.le_of_ble_eq_true rfl) rfl ?_
  intro p e s m below meth c A ls hx hb hr hml hh hg hown hlocks hnm hK hA hP hD0 hAw hS hl
  refine lv_aload_n hx hb d_MS_hasValues_0 rfl (lv_at hl 0 rfl) ?_
  refine va_get (D := D) (ci := 16) (v := .ref ha) (C := R_MS) (T := T_MS) (N := 32) hx hb hg i_MS hown hK hP 0 rfl rfl 12 (by decide) (hg _ k9_236) (fun _ h9 => h9) hv d_MS_hasValues_1 ?_
  refine lv_iconst (v := 0) hx hb d_MS_hasValues_4 (by decide) ?_
  refine va_zald hx hb hK hP 1 1 rfl rfl (vp_in_nI (n := 0) (by decide) (by decide)) d_MS_hasValues_5 ?_
  exact zPret (post := fun r => r = 0) (v := 0) hx hb hr rfl hlocks hS (rfl) d_MS_hasValues_6
set_option maxHeartbeats 4000000 in
set_option maxRecDepth 100000 in
theorem c_MM_print_0 (l : Launch) (D : va_G) (tA : Nat → ClassId) (sz : Nat) (h0 : Nat) (fs : List Value) (t0 : Int32) (ht : fs[0]? = some (.int t0)) (s0 : Nat) (ss : List Value) (hs0 : fs[39]? = some (.ref s0)) (hst : ss[1]? = some (.int 0)) (k w : Int32) : zMi l ({ cls := "ChanceArenaModel", name := "print", desc := "(II)I" } : Jvm.MethodName) (zW (Jvm.Cond.code ({ cls := "ChanceArenaModel", name := "print", desc := "(II)I" } : Jvm.MethodName) prog_15_method_103_code (3 : Nat) (Option.some Jvm.ClassFile.FieldType.int))) { frames := 1, cells := 0, slots := 0, locals := 22 } [.ref h0, .int k, .int w] D tA [(h0, .inr (13, fs)), (s0, .inr (16, ss))] sz (fun r (_ : Unit) => (fun r => r = -1) r) (fun _ => [(h0, .inr (13, (fs.set 0 (.int 0)))), (s0, .inr (16, ss))]) 0 0 := by
  refine zOpen (fun A => va_Qi (fun r (_ : Unit) => (fun r => r = -1) r) (zPost D A (fun _ => [(h0, .inr (13, (fs.set 0 (.int 0)))), (s0, .inr (16, ss))])) A) (lv := [(0, .ref h0), (1, .int k), (2, .int w)]) (by decide) rfl (Nat.le_of_ble_eq_true rfl) rfl ?_
  intro p e s m below meth c A ls hx hb hr hml hh hg hown hlocks hnm hK hA hP hD0 hAw hS hl
  have hD := zD hD0 hAw
  refine lv_aload_n hx hb d_MM_print_0 rfl (lv_at hl 0 rfl) ?_
  refine lv_iconst (v := 0) hx hb d_MM_print_1 (by decide) ?_
  refine va_put (D := D) (ci := 13) (v := .int 0) (ty := .int) (C := R_MM) (T := T_MM) (N := 49) hx hb hg i_MM t_MM o_MM n_MM hown hK hP hD hS 0 rfl rfl 0 (by decide) (hg _ k10_81) (fun _ h9 => h9) rfl (by decide +kernel) rfl rfl (zLen ht) d_MM_print_2 (fun H locs hP hD hS => ?_)
  replace hP : va_P D vwCl [(h0, .inr (13, (fs.set 0 (.int 0)))), (s0, .inr (16, ss))] _ := hP
  replace hD : va_D A [(h0, .inr (13, (fs.set 0 (.int 0)))), (s0, .inr (16, ss))] := hD
  refine lv_aload_n hx hb d_MM_print_5 rfl (lv_at hl 0 rfl) ?_
  refine va_get (D := D) (ci := 13) (v := .ref s0) (C := R_MM) (T := T_MM) (N := 49) hx hb hg i_MM hown hK hP 0 rfl rfl 39 (by decide) (hg _ k10_120) (fun _ h9 => h9) (zSetN (by decide) hs0) d_MM_print_6 ?_
  refine lv_iload_n hx hb d_MM_print_9 rfl (lv_at hl 1 rfl) ?_
  refine lv_iload_n hx hb d_MM_print_10 rfl (lv_at hl 2 rfl) ?_
  refine zCallp hP hS hA (va_runV (As := [.int k, .int w]) (rest := []) ⟨hx, hb, hml, hown, hg⟩ (c_MS_isThere_0 l D tA _ s0 ss k w hst) (zV 2 hg k13_191 k13_192 k13_193 k1_17 k13_194 rfl rfl (by decide +kernel) ⟨(Nat.le_of_ble_eq_true rfl), (Nat.le_of_ble_eq_true rfl)⟩) (zPreV hh hK hP hD [1] (by decide) rfl (ci := 16) rfl 0 rfl) rfl rfl hl.1 rfl (lv_room (Nat.le_of_ble_eq_true rfl)) d_MM_print_11 ⟨(Nat.le_of_ble_eq_true rfl), (Nat.le_of_ble_eq_true rfl)⟩) (fun r11 H locs er11 hP hS => ?_)
  refine lv_if_ne (tgt := 19) hx hb d_MM_print_14 (by decide) (fun c14 => absurd er11 c14) (fun c14 => ?_)
  refine lv_iconst (v := (-1)) hx hb d_MM_print_17 (by decide) ?_
  exact zZret (post := fun r (_ : Unit) => (fun r => r = -1) r) (W1 := fun _ => [(h0, .inr (13, (fs.set 0 (.int 0)))), (s0, .inr (16, ss))]) (v := (-1)) hx hb hr rfl hlocks hP hD hS () (rfl) rfl d_MM_print_18
set_option maxHeartbeats 4000000 in
set_option maxRecDepth 100000 in
theorem c_MM_billionths_0 (l : Launch) (D : va_G) (tA : Nat → ClassId) (sz : Nat) (h0 : Nat) (fs : List Value) (t0 : Int32) (ht : fs[0]? = some (.int t0)) (s0 : Nat) (ss : List Value) (hs0 : fs[39]? = some (.ref s0)) (hst : ss[1]? = some (.int 0)) (k w : Int32) : zMi l ({ cls := "ChanceArenaModel", name := "billionths", desc := "(II)I" } : Jvm.MethodName) (zW (Jvm.Cond.code ({ cls := "ChanceArenaModel", name := "billionths", desc := "(II)I" } : Jvm.MethodName) prog_15_method_106_code (3 : Nat) (Option.some Jvm.ClassFile.FieldType.int))) { frames := 1, cells := 0, slots := 0, locals := 22 } [.ref h0, .int k, .int w] D tA [(h0, .inr (13, fs)), (s0, .inr (16, ss))] sz (fun r (_ : Unit) => (fun r => r = -1) r) (fun _ => [(h0, .inr (13, (fs.set 0 (.int 0)))), (s0, .inr (16, ss))]) 0 0 := by
  refine zOpen (fun A => va_Qi (fun r (_ : Unit) => (fun r => r = -1) r) (zPost D A (fun _ => [(h0, .inr (13, (fs.set 0 (.int 0)))), (s0, .inr (16, ss))])) A) (lv := [(0, .ref h0), (1, .int k), (2, .int w)]) (by decide) rfl (Nat.le_of_ble_eq_true rfl) rfl ?_
  intro p e s m below meth c A ls hx hb hr hml hh hg hown hlocks hnm hK hA hP hD0 hAw hS hl
  have hD := zD hD0 hAw
  refine lv_aload_n hx hb d_MM_billionths_0 rfl (lv_at hl 0 rfl) ?_
  refine lv_iconst (v := 0) hx hb d_MM_billionths_1 (by decide) ?_
  refine va_put (D := D) (ci := 13) (v := .int 0) (ty := .int) (C := R_MM) (T := T_MM) (N := 49) hx hb hg i_MM t_MM o_MM n_MM hown hK hP hD hS 0 rfl rfl 0 (by decide) (hg _ k10_81) (fun _ h9 => h9) rfl (by decide +kernel) rfl rfl (zLen ht) d_MM_billionths_2 (fun H locs hP hD hS => ?_)
  replace hP : va_P D vwCl [(h0, .inr (13, (fs.set 0 (.int 0)))), (s0, .inr (16, ss))] _ := hP
  replace hD : va_D A [(h0, .inr (13, (fs.set 0 (.int 0)))), (s0, .inr (16, ss))] := hD
  refine lv_aload_n hx hb d_MM_billionths_5 rfl (lv_at hl 0 rfl) ?_
  refine va_get (D := D) (ci := 13) (v := .ref s0) (C := R_MM) (T := T_MM) (N := 49) hx hb hg i_MM hown hK hP 0 rfl rfl 39 (by decide) (hg _ k10_120) (fun _ h9 => h9) (zSetN (by decide) hs0) d_MM_billionths_6 ?_
  refine lv_iload_n hx hb d_MM_billionths_9 rfl (lv_at hl 1 rfl) ?_
  refine lv_iload_n hx hb d_MM_billionths_10 rfl (lv_at hl 2 rfl) ?_
  refine zCallp hP hS hA (va_runV (As := [.int k, .int w]) (rest := []) ⟨hx, hb, hml, hown, hg⟩ (c_MS_isThere_0 l D tA _ s0 ss k w hst) (zV 2 hg k13_191 k13_192 k13_193 k1_17 k13_194 rfl rfl (by decide +kernel) ⟨(Nat.le_of_ble_eq_true rfl), (Nat.le_of_ble_eq_true rfl)⟩) (zPreV hh hK hP hD [1] (by decide) rfl (ci := 16) rfl 0 rfl) rfl rfl hl.1 rfl (lv_room (Nat.le_of_ble_eq_true rfl)) d_MM_billionths_11 ⟨(Nat.le_of_ble_eq_true rfl), (Nat.le_of_ble_eq_true rfl)⟩) (fun r11 H locs er11 hP hS => ?_)
  refine lv_if_eq (tgt := 29) hx hb d_MM_billionths_14 (by decide) (fun c14 => ?_) (fun c14 => absurd er11 c14)
  refine lv_iconst (v := (-1)) hx hb d_MM_billionths_29 (by decide) ?_
  exact zZret (post := fun r (_ : Unit) => (fun r => r = -1) r) (W1 := fun _ => [(h0, .inr (13, (fs.set 0 (.int 0)))), (s0, .inr (16, ss))]) (v := (-1)) hx hb hr rfl hlocks hP hD hS () (rfl) rfl d_MM_billionths_30
set_option maxHeartbeats 4000000 in
set_option maxRecDepth 100000 in
theorem c_MM_compare_0 (l : Launch) (D : va_G) (tA : Nat → ClassId) (sz : Nat) (h0 : Nat) (fs : List Value) (t0 : Int32) (ht : fs[0]? = some (.int t0)) (s0 : Nat) (ss : List Value) (hs0 : fs[39]? = some (.ref s0)) (hst : ss[1]? = some (.int 0)) (k w k2 w2 : Int32) : zMi l ({ cls := "ChanceArenaModel", name := "compare", desc := "(IIII)I" } : Jvm.MethodName) (zW (Jvm.Cond.code ({ cls := "ChanceArenaModel", name := "compare", desc := "(IIII)I" } : Jvm.MethodName) prog_15_method_105_code (5 : Nat) (Option.some Jvm.ClassFile.FieldType.int))) { frames := 1, cells := 0, slots := 0, locals := 22 } [.ref h0, .int k, .int w, .int k2, .int w2] D tA [(h0, .inr (13, fs)), (s0, .inr (16, ss))] sz (fun r (_ : Unit) => (fun r => r = -2) r) (fun _ => [(h0, .inr (13, (fs.set 0 (.int 0)))), (s0, .inr (16, ss))]) 0 0 := by
  refine zOpen (fun A => va_Qi (fun r (_ : Unit) => (fun r => r = -2) r) (zPost D A (fun _ => [(h0, .inr (13, (fs.set 0 (.int 0)))), (s0, .inr (16, ss))])) A) (lv := [(0, .ref h0), (1, .int k), (2, .int w), (3, .int k2), (4, .int w2)]) (by decide) rfl (Nat.le_of_ble_eq_true rfl) rfl ?_
  intro p e s m below meth c A ls hx hb hr hml hh hg hown hlocks hnm hK hA hP hD0 hAw hS hl
  have hD := zD hD0 hAw
  refine lv_aload_n hx hb d_MM_compare_0 rfl (lv_at hl 0 rfl) ?_
  refine lv_iconst (v := 0) hx hb d_MM_compare_1 (by decide) ?_
  refine va_put (D := D) (ci := 13) (v := .int 0) (ty := .int) (C := R_MM) (T := T_MM) (N := 49) hx hb hg i_MM t_MM o_MM n_MM hown hK hP hD hS 0 rfl rfl 0 (by decide) (hg _ k10_81) (fun _ h9 => h9) rfl (by decide +kernel) rfl rfl (zLen ht) d_MM_compare_2 (fun H locs hP hD hS => ?_)
  replace hP : va_P D vwCl [(h0, .inr (13, (fs.set 0 (.int 0)))), (s0, .inr (16, ss))] _ := hP
  replace hD : va_D A [(h0, .inr (13, (fs.set 0 (.int 0)))), (s0, .inr (16, ss))] := hD
  refine lv_aload_n hx hb d_MM_compare_5 rfl (lv_at hl 0 rfl) ?_
  refine va_get (D := D) (ci := 13) (v := .ref s0) (C := R_MM) (T := T_MM) (N := 49) hx hb hg i_MM hown hK hP 0 rfl rfl 39 (by decide) (hg _ k10_120) (fun _ h9 => h9) (zSetN (by decide) hs0) d_MM_compare_6 ?_
  refine lv_iload_n hx hb d_MM_compare_9 rfl (lv_at hl 1 rfl) ?_
  refine lv_iload_n hx hb d_MM_compare_10 rfl (lv_at hl 2 rfl) ?_
  refine zCallp hP hS hA (va_runV (As := [.int k, .int w]) (rest := []) ⟨hx, hb, hml, hown, hg⟩ (c_MS_isThere_0 l D tA _ s0 ss k w hst) (zV 2 hg k13_191 k13_192 k13_193 k1_17 k13_194 rfl rfl (by decide +kernel) ⟨(Nat.le_of_ble_eq_true rfl), (Nat.le_of_ble_eq_true rfl)⟩) (zPreV hh hK hP hD [1] (by decide) rfl (ci := 16) rfl 0 rfl) rfl rfl hl.1 rfl (lv_room (Nat.le_of_ble_eq_true rfl)) d_MM_compare_11 ⟨(Nat.le_of_ble_eq_true rfl), (Nat.le_of_ble_eq_true rfl)⟩) (fun r11 H locs er11 hP hS => ?_)
  refine lv_if_eq (tgt := 45) hx hb d_MM_compare_14 (by decide) (fun c14 => ?_) (fun c14 => absurd er11 c14)
  refine lv_bipush (v := (-2)) hx hb d_MM_compare_45 (by decide) ?_
  exact zZret (post := fun r (_ : Unit) => (fun r => r = -2) r) (W1 := fun _ => [(h0, .inr (13, (fs.set 0 (.int 0)))), (s0, .inr (16, ss))]) (v := (-2)) hx hb hr rfl hlocks hP hD hS () (rfl) rfl d_MM_compare_47
set_option maxHeartbeats 4000000 in
set_option maxRecDepth 100000 in
theorem c_MM_check_0 (l : Launch) (D : va_G) (tA : Nat → ClassId) (sz : Nat) (h0 : Nat) (fs : List Value) (t0 : Int32) (ht : fs[0]? = some (.int t0)) (s0 ha : Nat) (ss : List Value) (hs0 : fs[39]? = some (.ref s0)) (hha : ss[12]? = some (.ref ha)) : zMi l ({ cls := "ChanceArenaModel", name := "check", desc := "()I" } : Jvm.MethodName) (zW (Jvm.Cond.code ({ cls := "ChanceArenaModel", name := "check", desc := "()I" } : Jvm.MethodName) prog_15_method_110_code (1 : Nat) (Option.some Jvm.ClassFile.FieldType.int))) { frames := 1, cells := 0, slots := 0, locals := 22 } [.ref h0] D tA [(h0, .inr (13, fs)), (s0, .inr (16, ss)), (ha, .inl (tA 1, 3, .inl (fun _ => 0)))] sz (fun r (_ : Unit) => (fun r => r = -1) r) (fun _ => [(h0, .inr (13, (fs.set 0 (.int 0)))), (s0, .inr (16, ss)), (ha, .inl (tA 1, 3, .inl (fun _ => 0)))]) 0 0 := by
  refine zOpen (fun A => va_Qi (fun r (_ : Unit) => (fun r => r = -1) r) (zPost D A (fun _ => [(h0, .inr (13, (fs.set 0 (.int 0)))), (s0, .inr (16, ss)), (ha, .inl (tA 1, 3, .inl (fun _ => 0)))])) A) (lv := [(0, .ref h0)]) (by decide) rfl (Nat.le_of_ble_eq_true rfl) rfl ?_
  intro p e s m below meth c A ls hx hb hr hml hh hg hown hlocks hnm hK hA hP hD0 hAw hS hl
  have hD := zD hD0 hAw
  refine lv_aload_n hx hb d_MM_check_0 rfl (lv_at hl 0 rfl) ?_
  refine lv_iconst (v := 0) hx hb d_MM_check_1 (by decide) ?_
  refine va_put (D := D) (ci := 13) (v := .int 0) (ty := .int) (C := R_MM) (T := T_MM) (N := 49) hx hb hg i_MM t_MM o_MM n_MM hown hK hP hD hS 0 rfl rfl 0 (by decide) (hg _ k10_81) (fun _ h9 => h9) rfl (by decide +kernel) rfl rfl (zLen ht) d_MM_check_2 (fun H locs hP hD hS => ?_)
  replace hP : va_P D vwCl [(h0, .inr (13, (fs.set 0 (.int 0)))), (s0, .inr (16, ss)), (ha, .inl (tA 1, 3, .inl (fun _ => 0)))] _ := hP
  replace hD : va_D A [(h0, .inr (13, (fs.set 0 (.int 0)))), (s0, .inr (16, ss)), (ha, .inl (tA 1, 3, .inl (fun _ => 0)))] := hD
  refine lv_aload_n hx hb d_MM_check_5 rfl (lv_at hl 0 rfl) ?_
  refine va_get (D := D) (ci := 13) (v := .ref s0) (C := R_MM) (T := T_MM) (N := 49) hx hb hg i_MM hown hK hP 0 rfl rfl 39 (by decide) (hg _ k10_120) (fun _ h9 => h9) (zSetN (by decide) hs0) d_MM_check_6 ?_
  refine zCallp hP hS hA (va_runV (As := []) (rest := []) ⟨hx, hb, hml, hown, hg⟩ (c_MS_hasValues_0 l D tA _ s0 ha ss hha) (zV 0 hg k13_171 k13_172 k13_173 k1_17 k13_174 rfl rfl (by decide +kernel) ⟨(Nat.le_of_ble_eq_true rfl), (Nat.le_of_ble_eq_true rfl)⟩) (zPreV hh hK hP hD [1, 2] (by decide) rfl (ci := 16) rfl 0 rfl) rfl rfl hl.1 rfl (lv_room (Nat.le_of_ble_eq_true rfl)) d_MM_check_9 ⟨(Nat.le_of_ble_eq_true rfl), (Nat.le_of_ble_eq_true rfl)⟩) (fun r9 H locs er9 hP hS => ?_)
  refine lv_if_eq (tgt := 19) hx hb d_MM_check_12 (by decide) (fun c12 => ?_) (fun c12 => absurd er9 c12)
  refine lv_iconst (v := (-1)) hx hb d_MM_check_19 (by decide) ?_
  exact zZret (post := fun r (_ : Unit) => (fun r => r = -1) r) (W1 := fun _ => [(h0, .inr (13, (fs.set 0 (.int 0)))), (s0, .inr (16, ss)), (ha, .inl (tA 1, 3, .inl (fun _ => 0)))]) (v := (-1)) hx hb hr rfl hlocks hP hD hS () (rfl) rfl d_MM_check_20
set_option maxHeartbeats 4000000 in
set_option maxRecDepth 100000 in
theorem c_MM_adopt_0 (l : Launch) (D : va_G) (tA : Nat → ClassId) (sz : Nat) (h0 : Nat) (fs : List Value) (t0 : Int32) (ht : fs[0]? = some (.int t0)) (s0 ha : Nat) (ss : List Value) (hs0 : fs[39]? = some (.ref s0)) (hha : ss[12]? = some (.ref ha)) : zMv l ({ cls := "ChanceArenaModel", name := "adopt", desc := "()V" } : Jvm.MethodName) (zW (Jvm.Cond.code ({ cls := "ChanceArenaModel", name := "adopt", desc := "()V" } : Jvm.MethodName) prog_15_method_101_code (1 : Nat) (Option.none : Option Jvm.ClassFile.FieldType))) { frames := 1, cells := 0, slots := 0, locals := 22 } [.ref h0] D tA [(h0, .inr (13, fs)), (s0, .inr (16, ss)), (ha, .inl (tA 1, 3, .inl (fun _ => 0)))] sz (fun _ : Unit => True) (fun _ => [(h0, .inr (13, (fs.set 0 (.int 1)))), (s0, .inr (16, ss)), (ha, .inl (tA 1, 3, .inl (fun _ => 0)))]) 0 0 := by
  refine zOpen (fun A => va_Qv (fun _ : Unit => True) (zPost D A (fun _ => [(h0, .inr (13, (fs.set 0 (.int 1)))), (s0, .inr (16, ss)), (ha, .inl (tA 1, 3, .inl (fun _ => 0)))])) A) (lv := [(0, .ref h0)]) (by decide) rfl (Nat.le_of_ble_eq_true rfl) rfl ?_
  intro p e s m below meth c A ls hx hb hr hml hh hg hown hlocks hnm hK hA hP hD0 hAw hS hl
  have hD := zD hD0 hAw
  refine lv_aload_n hx hb d_MM_adopt_0 rfl (lv_at hl 0 rfl) ?_
  refine lv_aload_n hx hb d_MM_adopt_1 rfl (lv_at hl 0 rfl) ?_
  refine va_get (D := D) (ci := 13) (v := .ref s0) (C := R_MM) (T := T_MM) (N := 49) hx hb hg i_MM hown hK hP 0 rfl rfl 39 (by decide) (hg _ k10_120) (fun _ h9 => h9) hs0 d_MM_adopt_2 ?_
  refine zCallp hP hS hA (va_runV (As := []) (rest := [.ref h0]) ⟨hx, hb, hml, hown, hg⟩ (c_MS_hasValues_0 l D tA _ s0 ha ss hha) (zV 0 hg k13_171 k13_172 k13_173 k1_17 k13_174 rfl rfl (by decide +kernel) ⟨(Nat.le_of_ble_eq_true rfl), (Nat.le_of_ble_eq_true rfl)⟩) (zPreV hh hK hP hD [1, 2] (by decide) rfl (ci := 16) rfl 0 rfl) rfl rfl hl.1 rfl (lv_room (Nat.le_of_ble_eq_true rfl)) d_MM_adopt_5 ⟨(Nat.le_of_ble_eq_true rfl), (Nat.le_of_ble_eq_true rfl)⟩) (fun r5 H locs er5 hP hS => ?_)
  refine lv_if_eq (tgt := 15) hx hb d_MM_adopt_8 (by decide) (fun c8 => ?_) (fun c8 => absurd er5 c8)
  refine lv_iconst (v := 1) hx hb d_MM_adopt_15 (by decide) ?_
  refine va_put (D := D) (ci := 13) (v := .int 1) (ty := .int) (C := R_MM) (T := T_MM) (N := 49) hx hb hg i_MM t_MM o_MM n_MM hown hK hP hD hS 0 rfl rfl 0 (by decide) (hg _ k10_81) (fun _ h9 => h9) rfl (by decide +kernel) rfl rfl (zLen ht) d_MM_adopt_16 (fun H locs hP hD hS => ?_)
  replace hP : va_P D vwCl [(h0, .inr (13, (fs.set 0 (.int 1)))), (s0, .inr (16, ss)), (ha, .inl (tA 1, 3, .inl (fun _ => 0)))] _ := hP
  replace hD : va_D A [(h0, .inr (13, (fs.set 0 (.int 1)))), (s0, .inr (16, ss)), (ha, .inl (tA 1, 3, .inl (fun _ => 0)))] := hD
  refine lv_aload_n hx hb d_MM_adopt_19 rfl (lv_at hl 0 rfl) ?_
  refine va_get (D := D) (ci := 13) (v := .int 1) (C := R_MM) (T := T_MM) (N := 49) hx hb hg i_MM hown hK hP 0 rfl rfl 0 (by decide) (hg _ k10_81) (fun _ h9 => h9) (zSetS ht) d_MM_adopt_20 ?_
  refine lv_if_ne (tgt := 33) hx hb d_MM_adopt_23 (by decide) (fun c23 => ?_) (fun c23 => absurd c23 (by decide))
  exact zVret (post := fun _ : Unit => True) (W1 := fun _ => [(h0, .inr (13, (fs.set 0 (.int 1)))), (s0, .inr (16, ss)), (ha, .inl (tA 1, 3, .inl (fun _ => 0)))]) hx hb hr hlocks hP hD hS () trivial rfl d_MM_adopt_33
set_option maxHeartbeats 4000000 in
set_option maxRecDepth 100000 in
theorem c_MM_end_0 (l : Launch) (D : va_G) (tA : Nat → ClassId) (sz : Nat) (h0 : Nat) (fs : List Value) (t0 : Int32) (ht : fs[0]? = some (.int t0)) (n : Int32) (n0 : Nat) (ns : List Value) (htp : fs[1]? = some (.ref n0)) (hsz : ns[1]? = some (.int 0)) : zMi l ({ cls := "ChanceArenaModel", name := "end", desc := "(I)I" } : Jvm.MethodName) (zW (Jvm.Cond.code ({ cls := "ChanceArenaModel", name := "end", desc := "(I)I" } : Jvm.MethodName) prog_15_method_5_code (2 : Nat) (Option.some Jvm.ClassFile.FieldType.int))) { frames := 0, cells := 0, slots := 0, locals := 0 } [.ref h0, .int n] D tA [(h0, .inr (13, fs)), (n0, .inr (14, ns))] sz (fun r (_ : Unit) => (fun r => r = 0) r) (fun _ => [(h0, .inr (13, (fs.set 0 (.int 1)))), (n0, .inr (14, ns))]) 0 0 := by
  refine zOpen (fun A => va_Qi (fun r (_ : Unit) => (fun r => r = 0) r) (zPost D A (fun _ => [(h0, .inr (13, (fs.set 0 (.int 1)))), (n0, .inr (14, ns))])) A) (lv := [(0, .ref h0), (1, .int n)]) (by decide) rfl (Nat.le_of_ble_eq_true rfl) rfl ?_
  intro p e s m below meth c A ls hx hb hr hml hh hg hown hlocks hnm hK hA hP hD0 hAw hS hl
  have hD := zD hD0 hAw
  refine lv_aload_n hx hb d_MM_end_0 rfl (lv_at hl 0 rfl) ?_
  refine lv_iload_n hx hb d_MM_end_1 rfl (lv_at hl 1 rfl) ?_
  refine lv_if_lt (tgt := 23) hx hb d_MM_end_2 (by decide) (fun c2 => ?_) (fun c2 => ?_)
  · refine lv_iconst (v := 1) hx hb d_MM_end_23 (by decide) ?_
    refine lv_goto (tgt := 28) hx hb d_MM_end_24 (by decide) ?_
    refine va_put (D := D) (ci := 13) (v := .int 1) (ty := .int) (C := R_MM) (T := T_MM) (N := 49) hx hb hg i_MM t_MM o_MM n_MM hown hK hP hD hS 0 rfl rfl 0 (by decide) (hg _ k10_81) (fun _ h9 => h9) rfl (by decide +kernel) rfl rfl (zLen ht) d_MM_end_28 (fun H locs hP hD hS => ?_)
    replace hP : va_P D vwCl [(h0, .inr (13, (fs.set 0 (.int 1)))), (n0, .inr (14, ns))] _ := hP
    replace hD : va_D A [(h0, .inr (13, (fs.set 0 (.int 1)))), (n0, .inr (14, ns))] := hD
    refine lv_aload_n hx hb d_MM_end_31 rfl (lv_at hl 0 rfl) ?_
    refine va_get (D := D) (ci := 13) (v := .int 1) (C := R_MM) (T := T_MM) (N := 49) hx hb hg i_MM hown hK hP 0 rfl rfl 0 (by decide) (hg _ k10_81) (fun _ h9 => h9) (zSetS ht) d_MM_end_32 ?_
    refine lv_if_le (tgt := 40) hx hb d_MM_end_35 (by decide) (fun c35 => absurd c35 (by decide)) (fun c35 => ?_)
    refine lv_iconst (v := 0) hx hb d_MM_end_38 (by decide) ?_
    exact zZret (post := fun r (_ : Unit) => (fun r => r = 0) r) (W1 := fun _ => [(h0, .inr (13, (fs.set 0 (.int 1)))), (n0, .inr (14, ns))]) (v := 0) hx hb hr rfl hlocks hP hD hS () (rfl) rfl d_MM_end_39
  · refine lv_iload_n hx hb d_MM_end_5 rfl (lv_at hl 1 rfl) ?_
    refine lv_bipush (v := 20) hx hb d_MM_end_6 (by decide) ?_
    refine lv_icmp_gt (tgt := 23) hx hb d_MM_end_8 (by decide) (fun c8 => ?_) (fun c8 => ?_)
    · refine lv_iconst (v := 1) hx hb d_MM_end_23 (by decide) ?_
      refine lv_goto (tgt := 28) hx hb d_MM_end_24 (by decide) ?_
      refine va_put (D := D) (ci := 13) (v := .int 1) (ty := .int) (C := R_MM) (T := T_MM) (N := 49) hx hb hg i_MM t_MM o_MM n_MM hown hK hP hD hS 0 rfl rfl 0 (by decide) (hg _ k10_81) (fun _ h9 => h9) rfl (by decide +kernel) rfl rfl (zLen ht) d_MM_end_28 (fun H locs hP hD hS => ?_)
      replace hP : va_P D vwCl [(h0, .inr (13, (fs.set 0 (.int 1)))), (n0, .inr (14, ns))] _ := hP
      replace hD : va_D A [(h0, .inr (13, (fs.set 0 (.int 1)))), (n0, .inr (14, ns))] := hD
      refine lv_aload_n hx hb d_MM_end_31 rfl (lv_at hl 0 rfl) ?_
      refine va_get (D := D) (ci := 13) (v := .int 1) (C := R_MM) (T := T_MM) (N := 49) hx hb hg i_MM hown hK hP 0 rfl rfl 0 (by decide) (hg _ k10_81) (fun _ h9 => h9) (zSetS ht) d_MM_end_32 ?_
      refine lv_if_le (tgt := 40) hx hb d_MM_end_35 (by decide) (fun c35 => absurd c35 (by decide)) (fun c35 => ?_)
      refine lv_iconst (v := 0) hx hb d_MM_end_38 (by decide) ?_
      exact zZret (post := fun r (_ : Unit) => (fun r => r = 0) r) (W1 := fun _ => [(h0, .inr (13, (fs.set 0 (.int 1)))), (n0, .inr (14, ns))]) (v := 0) hx hb hr rfl hlocks hP hD hS () (rfl) rfl d_MM_end_39
    · refine lv_aload_n hx hb d_MM_end_11 rfl (lv_at hl 0 rfl) ?_
      refine va_get (D := D) (ci := 13) (v := .ref n0) (C := R_MM) (T := T_MM) (N := 49) hx hb hg i_MM hown hK hP 0 rfl rfl 1 (by decide) (hg _ k10_82) (fun _ h9 => h9) htp d_MM_end_12 ?_
      refine va_getN (D := D) (ci := 14) (v := .int 0) (C := R_MN) (T := T_MN) (N := 2) hx hb hg i_MN hown hK hP 1 rfl rfl 1 (by decide) (hg _ k9_10) (fun _ h9 => h9) hsz d_MM_end_15 ?_
      refine lv_bipush (v := 20) hx hb d_MM_end_18 (by decide) ?_
      refine lv_icmp_ge (tgt := 27) hx hb d_MM_end_20 (by decide) (fun c20 => absurd c20 (by decide)) (fun c20 => ?_)
      refine lv_iconst (v := 1) hx hb d_MM_end_23 (by decide) ?_
      refine lv_goto (tgt := 28) hx hb d_MM_end_24 (by decide) ?_
      refine va_put (D := D) (ci := 13) (v := .int 1) (ty := .int) (C := R_MM) (T := T_MM) (N := 49) hx hb hg i_MM t_MM o_MM n_MM hown hK hP hD hS 0 rfl rfl 0 (by decide) (hg _ k10_81) (fun _ h9 => h9) rfl (by decide +kernel) rfl rfl (zLen ht) d_MM_end_28 (fun H locs hP hD hS => ?_)
      replace hP : va_P D vwCl [(h0, .inr (13, (fs.set 0 (.int 1)))), (n0, .inr (14, ns))] _ := hP
      replace hD : va_D A [(h0, .inr (13, (fs.set 0 (.int 1)))), (n0, .inr (14, ns))] := hD
      refine lv_aload_n hx hb d_MM_end_31 rfl (lv_at hl 0 rfl) ?_
      refine va_get (D := D) (ci := 13) (v := .int 1) (C := R_MM) (T := T_MM) (N := 49) hx hb hg i_MM hown hK hP 0 rfl rfl 0 (by decide) (hg _ k10_81) (fun _ h9 => h9) (zSetS ht) d_MM_end_32 ?_
      refine lv_if_le (tgt := 40) hx hb d_MM_end_35 (by decide) (fun c35 => absurd c35 (by decide)) (fun c35 => ?_)
      refine lv_iconst (v := 0) hx hb d_MM_end_38 (by decide) ?_
      exact zZret (post := fun r (_ : Unit) => (fun r => r = 0) r) (W1 := fun _ => [(h0, .inr (13, (fs.set 0 (.int 1)))), (n0, .inr (14, ns))]) (v := 0) hx hb hr rfl hlocks hP hD hS () (rfl) rfl d_MM_end_39
set_option maxHeartbeats 4000000 in
set_option maxRecDepth 100000 in
theorem c_MM_character_0 (l : Launch) (D : va_G) (tA : Nat → ClassId) (sz : Nat) (h0 : Nat) (fs : List Value) (t0 : Int32) (ht : fs[0]? = some (.int t0)) (i : Int32) (hp : fs[48]? = some (.int 0)) : zMi l ({ cls := "ChanceArenaModel", name := "character", desc := "(I)I" } : Jvm.MethodName) (zW (Jvm.Cond.code ({ cls := "ChanceArenaModel", name := "character", desc := "(I)I" } : Jvm.MethodName) prog_15_method_104_code (2 : Nat) (Option.some Jvm.ClassFile.FieldType.int))) { frames := 0, cells := 0, slots := 0, locals := 0 } [.ref h0, .int i] D tA [(h0, .inr (13, fs))] sz (fun r (_ : Unit) => (fun r => r = -1) r) (fun _ => [(h0, .inr (13, (fs.set 0 (.int 0))))]) 0 0 := by
  refine zOpen (fun A => va_Qi (fun r (_ : Unit) => (fun r => r = -1) r) (zPost D A (fun _ => [(h0, .inr (13, (fs.set 0 (.int 0))))])) A) (lv := [(0, .ref h0), (1, .int i)]) (by decide) rfl (Nat.le_of_ble_eq_true rfl) rfl ?_
  intro p e s m below meth c A ls hx hb hr hml hh hg hown hlocks hnm hK hA hP hD0 hAw hS hl
  have hD := zD hD0 hAw
  refine lv_aload_n hx hb d_MM_character_0 rfl (lv_at hl 0 rfl) ?_
  refine lv_iconst (v := 0) hx hb d_MM_character_1 (by decide) ?_
  refine va_put (D := D) (ci := 13) (v := .int 0) (ty := .int) (C := R_MM) (T := T_MM) (N := 49) hx hb hg i_MM t_MM o_MM n_MM hown hK hP hD hS 0 rfl rfl 0 (by decide) (hg _ k10_81) (fun _ h9 => h9) rfl (by decide +kernel) rfl rfl (zLen ht) d_MM_character_2 (fun H locs hP hD hS => ?_)
  replace hP : va_P D vwCl [(h0, .inr (13, (fs.set 0 (.int 0))))] _ := hP
  replace hD : va_D A [(h0, .inr (13, (fs.set 0 (.int 0))))] := hD
  refine lv_iload_n hx hb d_MM_character_5 rfl (lv_at hl 1 rfl) ?_
  refine lv_if_lt (tgt := 26) hx hb d_MM_character_6 (by decide) (fun c6 => ?_) (fun c6 => ?_)
  · refine lv_iconst (v := (-1)) hx hb d_MM_character_26 (by decide) ?_
    exact zZret (post := fun r (_ : Unit) => (fun r => r = -1) r) (W1 := fun _ => [(h0, .inr (13, (fs.set 0 (.int 0))))]) (v := (-1)) hx hb hr rfl hlocks hP hD hS () (rfl) rfl d_MM_character_27
  · refine lv_iload_n hx hb d_MM_character_9 rfl (lv_at hl 1 rfl) ?_
    refine lv_aload_n hx hb d_MM_character_10 rfl (lv_at hl 0 rfl) ?_
    refine va_get (D := D) (ci := 13) (v := .int 0) (C := R_MM) (T := T_MM) (N := 49) hx hb hg i_MM hown hK hP 0 rfl rfl 48 (by decide) (hg _ k10_129) (fun _ h9 => h9) (zSetN (by decide) hp) d_MM_character_11 ?_
    refine lv_icmp_ge (tgt := 26) hx hb d_MM_character_14 (by decide) (fun c14 => ?_) (fun c14 => absurd (Int32.not_lt.mp c6) c14)
    refine lv_iconst (v := (-1)) hx hb d_MM_character_26 (by decide) ?_
    exact zZret (post := fun r (_ : Unit) => (fun r => r = -1) r) (W1 := fun _ => [(h0, .inr (13, (fs.set 0 (.int 0))))]) (v := (-1)) hx hb hr rfl hlocks hP hD hS () (rfl) rfl d_MM_character_27
