theorem k1_25 : (Jvm.Cond.initialized "java/lang/IllegalArgumentException") ∈ lw_R := zR (zk_1 _ (List.mem_of_getElem? (i := 25) (by decide +kernel))) rfl
theorem k1_33 : (Jvm.Cond.initialized "java/lang/IllegalStateException") ∈ lw_R := zR (zk_1 _ (List.mem_of_getElem? (i := 33) (by decide +kernel))) rfl
theorem k1_34 : (Jvm.Cond.initialized "java/lang/IndexOutOfBoundsException") ∈ lw_R := zR (zk_1 _ (List.mem_of_getElem? (i := 34) (by decide +kernel))) rfl
theorem k7_191 : (Jvm.Cond.code ({ cls := "ChanceArena", name := "end", desc := "(I)I" } : Jvm.MethodName) prog_1_method_5_code (2 : Nat) (Option.some Jvm.ClassFile.FieldType.int)) ∈ lw_R := zR (zk_7 _ (List.mem_of_getElem? (i := 191) (by decide +kernel))) rfl
theorem k7_192 : (Jvm.Cond.classLink "ChanceArena" (117 : Nat) "java/lang/IllegalArgumentException") ∈ lw_R := zR (zk_7 _ (List.mem_of_getElem? (i := 192) (by decide +kernel))) rfl
theorem k7_210 : (Jvm.Cond.code ({ cls := "ChanceArena", name := "explore", desc := "()I" } : Jvm.MethodName) prog_1_method_10_code (2 : Nat) (Option.some Jvm.ClassFile.FieldType.int)) ∈ lw_R := zR (zk_7 _ (List.mem_of_getElem? (i := 210) (by decide +kernel))) rfl
theorem k7_211 : (Jvm.Cond.classLink "ChanceArena" (149 : Nat) "java/lang/IllegalStateException") ∈ lw_R := zR (zk_7 _ (List.mem_of_getElem? (i := 211) (by decide +kernel))) rfl
theorem k8_46 : (Jvm.Cond.code ({ cls := "ChanceArena", name := "variable", desc := "(II)I" } : Jvm.MethodName) prog_1_method_13_code (3 : Nat) (Option.some Jvm.ClassFile.FieldType.int)) ∈ lw_R := zR (zk_8 _ (List.mem_of_getElem? (i := 46) (by decide +kernel))) rfl
theorem k8_47 : (Jvm.Cond.classLink "ChanceArena" (167 : Nat) "java/lang/IndexOutOfBoundsException") ∈ lw_R := zR (zk_8 _ (List.mem_of_getElem? (i := 47) (by decide +kernel))) rfl
theorem k8_68 : (Jvm.Cond.code ({ cls := "ChanceArena", name := "solve", desc := "()I" } : Jvm.MethodName) prog_1_method_19_code (2 : Nat) (Option.some Jvm.ClassFile.FieldType.int)) ∈ lw_R := zR (zk_8 _ (List.mem_of_getElem? (i := 68) (by decide +kernel))) rfl
theorem k8_198 : (Jvm.Cond.code ({ cls := "ChanceArena", name := "within", desc := "(I)I" } : Jvm.MethodName) prog_1_method_20_code (4 : Nat) (Option.some Jvm.ClassFile.FieldType.int)) ∈ lw_R := zR (zk_8 _ (List.mem_of_getElem? (i := 198) (by decide +kernel))) rfl
theorem k8_218 : (Jvm.Cond.code ({ cls := "ChanceArena", name := "choose", desc := "(II)V" } : Jvm.MethodName) prog_1_method_21_code (3 : Nat) (Option.none : Option Jvm.ClassFile.FieldType)) ∈ lw_R := zR (zk_8 _ (List.mem_of_getElem? (i := 218) (by decide +kernel))) rfl
theorem k8_225 : (Jvm.Cond.code ({ cls := "ChanceArena", name := "adopt", desc := "()V" } : Jvm.MethodName) prog_1_method_22_code (2 : Nat) (Option.none : Option Jvm.ClassFile.FieldType)) ∈ lw_R := zR (zk_8 _ (List.mem_of_getElem? (i := 225) (by decide +kernel))) rfl
theorem k8_233 : (Jvm.Cond.code ({ cls := "ChanceArena", name := "judge", desc := "(I)I" } : Jvm.MethodName) prog_1_method_23_code (2 : Nat) (Option.some Jvm.ClassFile.FieldType.int)) ∈ lw_R := zR (zk_8 _ (List.mem_of_getElem? (i := 233) (by decide +kernel))) rfl
theorem d_CA_end_0 : decode prog_1_method_5_code 0 = .ok (.iload_n 1, 1) := dc9_27 (by decide +kernel)
theorem d_CA_end_1 : decode prog_1_method_5_code 1 = .ok (.ifCond .lt 18, 3) := dc9_155 (by decide +kernel)
theorem d_CA_end_19 : decode prog_1_method_5_code 19 = .ok (.new 117, 3) := dc9_187 (by decide +kernel)
theorem d_CA_end_22 : decode prog_1_method_5_code 22 = .ok (.dup, 1) := dc9_89 (by decide +kernel)
theorem d_CA_end_23 : decode prog_1_method_5_code 23 = .ok (.invokespecial 119, 3) := dc9_183 (by decide +kernel)
theorem d_CA_end_26 : decode prog_1_method_5_code 26 = .ok (.athrow, 1) := by decide +kernel
theorem d_CA_end_4 : decode prog_1_method_5_code 4 = .ok (.iload_n 1, 1) := dc9_27 (by decide +kernel)
theorem d_CA_end_5 : decode prog_1_method_5_code 5 = .ok (.bipush 20, 2) := dc9_16 (by decide +kernel)
theorem d_CA_end_7 : decode prog_1_method_5_code 7 = .ok (.if_icmp .gt 12, 3) := dc9_163 (by decide +kernel)
theorem d_CA_end_10 : decode prog_1_method_5_code 10 = .ok (.aload_n 0, 1) := dc9_42 (by decide +kernel)
theorem d_CA_end_11 : decode prog_1_method_5_code 11 = .ok (.getfield 13, 3) := dc9_180 (by decide +kernel)
theorem d_CA_end_14 : decode prog_1_method_5_code 14 = .ok (.bipush 20, 2) := dc9_16 (by decide +kernel)
theorem d_CA_end_16 : decode prog_1_method_5_code 16 = .ok (.if_icmp .ge 11, 3) := dc9_162 (by decide +kernel)
theorem d_CA_explore_0 : decode prog_1_method_10_code 0 = .ok (.aload_n 0, 1) := dc9_42 (by decide +kernel)
theorem d_CA_explore_1 : decode prog_1_method_10_code 1 = .ok (.getfield 41, 3) := dc9_180 (by decide +kernel)
theorem d_CA_explore_4 : decode prog_1_method_10_code 4 = .ok (.ifCond .ne 11, 3) := dc9_154 (by decide +kernel)
theorem d_CA_explore_7 : decode prog_1_method_10_code 7 = .ok (.new 149, 3) := dc9_187 (by decide +kernel)
theorem d_CA_explore_10 : decode prog_1_method_10_code 10 = .ok (.dup, 1) := dc9_89 (by decide +kernel)
theorem d_CA_explore_11 : decode prog_1_method_10_code 11 = .ok (.invokespecial 151, 3) := dc9_183 (by decide +kernel)
theorem d_CA_explore_14 : decode prog_1_method_10_code 14 = .ok (.athrow, 1) := by decide +kernel
theorem d_CA_solve_0 : decode prog_1_method_19_code 0 = .ok (.aload_n 0, 1) := dc9_42 (by decide +kernel)
theorem d_CA_solve_1 : decode prog_1_method_19_code 1 = .ok (.getfield 54, 3) := dc9_180 (by decide +kernel)
theorem d_CA_solve_4 : decode prog_1_method_19_code 4 = .ok (.getfield 160, 3) := dc9_180 (by decide +kernel)
theorem d_CA_solve_7 : decode prog_1_method_19_code 7 = .ok (.ifCond .ne 11, 3) := dc9_154 (by decide +kernel)
theorem d_CA_solve_10 : decode prog_1_method_19_code 10 = .ok (.new 149, 3) := dc9_187 (by decide +kernel)
theorem d_CA_solve_13 : decode prog_1_method_19_code 13 = .ok (.dup, 1) := dc9_89 (by decide +kernel)
theorem d_CA_solve_14 : decode prog_1_method_19_code 14 = .ok (.invokespecial 151, 3) := dc9_183 (by decide +kernel)
theorem d_CA_solve_17 : decode prog_1_method_19_code 17 = .ok (.athrow, 1) := by decide +kernel
theorem d_CA_adopt_0 : decode prog_1_method_22_code 0 = .ok (.aload_n 0, 1) := dc9_42 (by decide +kernel)
theorem d_CA_adopt_1 : decode prog_1_method_22_code 1 = .ok (.getfield 70, 3) := dc9_180 (by decide +kernel)
theorem d_CA_adopt_4 : decode prog_1_method_22_code 4 = .ok (.getfield 137, 3) := dc9_180 (by decide +kernel)
theorem d_CA_adopt_7 : decode prog_1_method_22_code 7 = .ok (.ifCond .ne 11, 3) := dc9_154 (by decide +kernel)
theorem d_CA_adopt_10 : decode prog_1_method_22_code 10 = .ok (.new 149, 3) := dc9_187 (by decide +kernel)
theorem d_CA_adopt_13 : decode prog_1_method_22_code 13 = .ok (.dup, 1) := dc9_89 (by decide +kernel)
theorem d_CA_adopt_14 : decode prog_1_method_22_code 14 = .ok (.invokespecial 151, 3) := dc9_183 (by decide +kernel)
theorem d_CA_adopt_17 : decode prog_1_method_22_code 17 = .ok (.athrow, 1) := by decide +kernel
theorem d_CA_variable_0 : decode prog_1_method_13_code 0 = .ok (.aload_n 0, 1) := dc9_42 (by decide +kernel)
theorem d_CA_variable_1 : decode prog_1_method_13_code 1 = .ok (.getfield 54, 3) := dc9_180 (by decide +kernel)
theorem d_CA_variable_4 : decode prog_1_method_13_code 4 = .ok (.iload_n 1, 1) := dc9_27 (by decide +kernel)
theorem d_CA_variable_5 : decode prog_1_method_13_code 5 = .ok (.invokevirtual 163, 3) := dc9_182 (by decide +kernel)
theorem d_CA_variable_8 : decode prog_1_method_13_code 8 = .ok (.ifCond .eq 18, 3) := dc9_153 (by decide +kernel)
theorem d_CA_variable_26 : decode prog_1_method_13_code 26 = .ok (.new 167, 3) := dc9_187 (by decide +kernel)
theorem d_CA_variable_29 : decode prog_1_method_13_code 29 = .ok (.dup, 1) := dc9_89 (by decide +kernel)
theorem d_CA_variable_30 : decode prog_1_method_13_code 30 = .ok (.invokespecial 169, 3) := dc9_183 (by decide +kernel)
theorem d_CA_variable_33 : decode prog_1_method_13_code 33 = .ok (.athrow, 1) := by decide +kernel
theorem d_CA_choose_0 : decode prog_1_method_21_code 0 = .ok (.aload_n 0, 1) := dc9_42 (by decide +kernel)
theorem d_CA_choose_1 : decode prog_1_method_21_code 1 = .ok (.getfield 54, 3) := dc9_180 (by decide +kernel)
theorem d_CA_choose_4 : decode prog_1_method_21_code 4 = .ok (.iload_n 1, 1) := dc9_27 (by decide +kernel)
theorem d_CA_choose_5 : decode prog_1_method_21_code 5 = .ok (.iload_n 2, 1) := dc9_28 (by decide +kernel)
theorem d_CA_choose_6 : decode prog_1_method_21_code 6 = .ok (.invokevirtual 180, 3) := dc9_182 (by decide +kernel)
theorem d_CA_choose_9 : decode prog_1_method_21_code 9 = .ok (.iconst (-1), 1) := dc9_2 (by decide +kernel)
theorem d_CA_choose_10 : decode prog_1_method_21_code 10 = .ok (.if_icmp .ne 11, 3) := dc9_160 (by decide +kernel)
theorem d_CA_choose_13 : decode prog_1_method_21_code 13 = .ok (.new 167, 3) := dc9_187 (by decide +kernel)
theorem d_CA_choose_16 : decode prog_1_method_21_code 16 = .ok (.dup, 1) := dc9_89 (by decide +kernel)
theorem d_CA_choose_17 : decode prog_1_method_21_code 17 = .ok (.invokespecial 169, 3) := dc9_183 (by decide +kernel)
theorem d_CA_choose_20 : decode prog_1_method_21_code 20 = .ok (.athrow, 1) := by decide +kernel
theorem d_CA_within_0 : decode prog_1_method_20_code 0 = .ok (.iload_n 1, 1) := dc9_27 (by decide +kernel)
theorem d_CA_within_1 : decode prog_1_method_20_code 1 = .ok (.ifCond .lt 9, 3) := dc9_155 (by decide +kernel)
theorem d_CA_within_10 : decode prog_1_method_20_code 10 = .ok (.new 117, 3) := dc9_187 (by decide +kernel)
theorem d_CA_within_13 : decode prog_1_method_20_code 13 = .ok (.dup, 1) := dc9_89 (by decide +kernel)
theorem d_CA_within_14 : decode prog_1_method_20_code 14 = .ok (.invokespecial 119, 3) := dc9_183 (by decide +kernel)
theorem d_CA_within_17 : decode prog_1_method_20_code 17 = .ok (.athrow, 1) := by decide +kernel
theorem d_CA_within_4 : decode prog_1_method_20_code 4 = .ok (.iload_n 1, 1) := dc9_27 (by decide +kernel)
theorem d_CA_within_5 : decode prog_1_method_20_code 5 = .ok (.bipush 32, 2) := dc9_16 (by decide +kernel)
theorem d_CA_within_7 : decode prog_1_method_20_code 7 = .ok (.if_icmp .le 11, 3) := dc9_164 (by decide +kernel)
theorem d_CA_within_18 : decode prog_1_method_20_code 18 = .ok (.aload_n 0, 1) := dc9_42 (by decide +kernel)
theorem d_CA_within_19 : decode prog_1_method_20_code 19 = .ok (.getfield 54, 3) := dc9_180 (by decide +kernel)
theorem d_CA_within_22 : decode prog_1_method_20_code 22 = .ok (.getfield 160, 3) := dc9_180 (by decide +kernel)
theorem d_CA_within_25 : decode prog_1_method_20_code 25 = .ok (.ifCond .ne 11, 3) := dc9_154 (by decide +kernel)
theorem d_CA_within_28 : decode prog_1_method_20_code 28 = .ok (.new 149, 3) := dc9_187 (by decide +kernel)
theorem d_CA_within_31 : decode prog_1_method_20_code 31 = .ok (.dup, 1) := dc9_89 (by decide +kernel)
theorem d_CA_within_32 : decode prog_1_method_20_code 32 = .ok (.invokespecial 151, 3) := dc9_183 (by decide +kernel)
theorem d_CA_within_35 : decode prog_1_method_20_code 35 = .ok (.athrow, 1) := by decide +kernel
theorem d_CA_judge_0 : decode prog_1_method_23_code 0 = .ok (.iload_n 1, 1) := dc9_27 (by decide +kernel)
theorem d_CA_judge_1 : decode prog_1_method_23_code 1 = .ok (.iconst 1, 1) := dc9_4 (by decide +kernel)
theorem d_CA_judge_2 : decode prog_1_method_23_code 2 = .ok (.if_icmp .eq 16, 3) := dc9_159 (by decide +kernel)
theorem d_CA_judge_18 : decode prog_1_method_23_code 18 = .ok (.aload_n 0, 1) := dc9_42 (by decide +kernel)
theorem d_CA_judge_19 : decode prog_1_method_23_code 19 = .ok (.getfield 54, 3) := dc9_180 (by decide +kernel)
theorem d_CA_judge_22 : decode prog_1_method_23_code 22 = .ok (.getfield 160, 3) := dc9_180 (by decide +kernel)
theorem d_CA_judge_25 : decode prog_1_method_23_code 25 = .ok (.ifCond .ne 11, 3) := dc9_154 (by decide +kernel)
theorem d_CA_judge_28 : decode prog_1_method_23_code 28 = .ok (.new 149, 3) := dc9_187 (by decide +kernel)
theorem d_CA_judge_31 : decode prog_1_method_23_code 31 = .ok (.dup, 1) := dc9_89 (by decide +kernel)
theorem d_CA_judge_32 : decode prog_1_method_23_code 32 = .ok (.invokespecial 151, 3) := dc9_183 (by decide +kernel)
theorem d_CA_judge_35 : decode prog_1_method_23_code 35 = .ok (.athrow, 1) := by decide +kernel
theorem d_CA_judge_5 : decode prog_1_method_23_code 5 = .ok (.iload_n 1, 1) := dc9_27 (by decide +kernel)
theorem d_CA_judge_6 : decode prog_1_method_23_code 6 = .ok (.iconst 2, 1) := dc9_5 (by decide +kernel)
theorem d_CA_judge_7 : decode prog_1_method_23_code 7 = .ok (.if_icmp .eq 11, 3) := dc9_159 (by decide +kernel)
theorem d_CA_judge_10 : decode prog_1_method_23_code 10 = .ok (.new 117, 3) := dc9_187 (by decide +kernel)
theorem d_CA_judge_13 : decode prog_1_method_23_code 13 = .ok (.dup, 1) := dc9_89 (by decide +kernel)
theorem d_CA_judge_14 : decode prog_1_method_23_code 14 = .ok (.invokespecial 119, 3) := dc9_183 (by decide +kernel)
theorem d_CA_judge_17 : decode prog_1_method_23_code 17 = .ok (.athrow, 1) := by decide +kernel
set_option maxHeartbeats 4000000 in
set_option maxRecDepth 100000 in
theorem c_CA_end_0 (l : Launch) (htr : l.stackTraces = false) (D : va_G) (tA : Nat → ClassId) (sz lim : Nat) (h0 : Nat) (fs : List Value) (n : Int32) (ht0 : fs[1]? = some (.int 0)) : zMt l ({ cls := "ChanceArena", name := "end", desc := "(I)I" } : Jvm.MethodName) (zW (Jvm.Cond.code ({ cls := "ChanceArena", name := "end", desc := "(I)I" } : Jvm.MethodName) prog_1_method_5_code (2 : Nat) (Option.some Jvm.ClassFile.FieldType.int))) { frames := 6, cells := 1, slots := 6, locals := 88 } [.ref h0, .int n] D tA [(h0, .inr (0, fs))] sz lim (fun E => E = "java/lang/IllegalArgumentException") := by
  refine zOpenX (lv := [(0, .ref h0), (1, .int n)]) htr (by decide) rfl (Nat.le_of_ble_eq_true rfl) rfl ?_
  intro p e s m below meth c ls hx htp hb hml ht hh hg hown hlocks hK hP hD0 h2 hS hl
  have hA : ∀ q, s.heap.size ≤ q → (fun q => s.heap.size ≤ q) q := fun _ h => h
  refine lv_iload_n hx hb d_CA_end_0 rfl (lv_at hl 1 rfl) ?_
  refine lv_if_lt (tgt := 19) hx hb d_CA_end_1 (by decide) (fun c1 => ?_) (fun c1 => ?_)
  · exact zThrow hx htp hb hml hl.1 ht hh hg hown hlocks h2 hS (by decide) zA_IAE k7_192 k1_25 d_CA_end_19 d_CA_end_22 d_CA_end_23 d_CA_end_26 (Nat.le_of_ble_eq_true rfl) (Nat.le_of_ble_eq_true rfl) (Nat.le_of_ble_eq_true rfl) (Nat.le_of_ble_eq_true rfl) (rfl)
  · refine lv_iload_n hx hb d_CA_end_4 rfl (lv_at hl 1 rfl) ?_
    refine lv_bipush (v := 20) hx hb d_CA_end_5 (by decide) ?_
    refine lv_icmp_gt (tgt := 19) hx hb d_CA_end_7 (by decide) (fun c7 => ?_) (fun c7 => ?_)
    · exact zThrow hx htp hb hml hl.1 ht hh hg hown hlocks h2 hS (by decide) zA_IAE k7_192 k1_25 d_CA_end_19 d_CA_end_22 d_CA_end_23 d_CA_end_26 (Nat.le_of_ble_eq_true rfl) (Nat.le_of_ble_eq_true rfl) (Nat.le_of_ble_eq_true rfl) (Nat.le_of_ble_eq_true rfl) (rfl)
    · refine lv_aload_n hx hb d_CA_end_10 rfl (lv_at hl 0 rfl) ?_
      refine va_get (D := D) (ci := 0) (v := .int 0) (C := R_CA) (T := T_CA) (N := 19) hx hb hg i_CA hown hK hP 0 rfl rfl 1 (by decide) (hg _ k3_188) (fun _ h9 => h9) ht0 d_CA_end_11 ?_
      refine lv_bipush (v := 20) hx hb d_CA_end_14 (by decide) ?_
      refine lv_icmp_ge (tgt := 27) hx hb d_CA_end_16 (by decide) (fun c16 => absurd c16 (by decide)) (fun c16 => ?_)
      exact zThrow hx htp hb hml hl.1 ht hh hg hown hlocks h2 hS (by decide) zA_IAE k7_192 k1_25 d_CA_end_19 d_CA_end_22 d_CA_end_23 d_CA_end_26 (Nat.le_of_ble_eq_true rfl) (Nat.le_of_ble_eq_true rfl) (Nat.le_of_ble_eq_true rfl) (Nat.le_of_ble_eq_true rfl) (rfl)
set_option maxHeartbeats 4000000 in
set_option maxRecDepth 100000 in
theorem c_CA_explore_0 (l : Launch) (htr : l.stackTraces = false) (D : va_G) (tA : Nat → ClassId) (sz lim : Nat) (h0 : Nat) (fs : List Value) (ht0 : fs[6]? = some (.int 0)) : zMt l ({ cls := "ChanceArena", name := "explore", desc := "()I" } : Jvm.MethodName) (zW (Jvm.Cond.code ({ cls := "ChanceArena", name := "explore", desc := "()I" } : Jvm.MethodName) prog_1_method_10_code (2 : Nat) (Option.some Jvm.ClassFile.FieldType.int))) { frames := 6, cells := 1, slots := 6, locals := 88 } [.ref h0] D tA [(h0, .inr (0, fs))] sz lim (fun E => E = "java/lang/IllegalStateException") := by
  refine zOpenX (lv := [(0, .ref h0)]) htr (by decide) rfl (Nat.le_of_ble_eq_true rfl) rfl ?_
  intro p e s m below meth c ls hx htp hb hml ht hh hg hown hlocks hK hP hD0 h2 hS hl
  have hA : ∀ q, s.heap.size ≤ q → (fun q => s.heap.size ≤ q) q := fun _ h => h
  refine lv_aload_n hx hb d_CA_explore_0 rfl (lv_at hl 0 rfl) ?_
  refine va_get (D := D) (ci := 0) (v := .int 0) (C := R_CA) (T := T_CA) (N := 19) hx hb hg i_CA hown hK hP 0 rfl rfl 6 (by decide) (hg _ k3_193) (fun _ h9 => h9) ht0 d_CA_explore_1 ?_
  refine lv_if_ne (tgt := 15) hx hb d_CA_explore_4 (by decide) (fun c4 => absurd rfl c4) (fun c4 => ?_)
  exact zThrow hx htp hb hml hl.1 ht hh hg hown hlocks h2 hS (by decide) zA_ISE k7_211 k1_33 d_CA_explore_7 d_CA_explore_10 d_CA_explore_11 d_CA_explore_14 (Nat.le_of_ble_eq_true rfl) (Nat.le_of_ble_eq_true rfl) (Nat.le_of_ble_eq_true rfl) (Nat.le_of_ble_eq_true rfl) (rfl)
set_option maxHeartbeats 4000000 in
set_option maxRecDepth 100000 in
theorem c_CA_solve_0 (l : Launch) (htr : l.stackTraces = false) (D : va_G) (tA : Nat → ClassId) (sz lim : Nat) (h0 g0 : Nat) (fs gs : List Value) (hgm : fs[9]? = some (.ref g0)) (hv : gs[0]? = some (.int 0)) : zMt l ({ cls := "ChanceArena", name := "solve", desc := "()I" } : Jvm.MethodName) (zW (Jvm.Cond.code ({ cls := "ChanceArena", name := "solve", desc := "()I" } : Jvm.MethodName) prog_1_method_19_code (2 : Nat) (Option.some Jvm.ClassFile.FieldType.int))) { frames := 6, cells := 1, slots := 6, locals := 88 } [.ref h0] D tA [(h0, .inr (0, fs)), (g0, .inr (6, gs))] sz lim (fun E => E = "java/lang/IllegalStateException") := by
  refine zOpenX (lv := [(0, .ref h0)]) htr (by decide) rfl (Nat.le_of_ble_eq_true rfl) rfl ?_
  intro p e s m below meth c ls hx htp hb hml ht hh hg hown hlocks hK hP hD0 h2 hS hl
  have hA : ∀ q, s.heap.size ≤ q → (fun q => s.heap.size ≤ q) q := fun _ h => h
  refine lv_aload_n hx hb d_CA_solve_0 rfl (lv_at hl 0 rfl) ?_
  refine va_get (D := D) (ci := 0) (v := .ref g0) (C := R_CA) (T := T_CA) (N := 19) hx hb hg i_CA hown hK hP 0 rfl rfl 9 (by decide) (hg _ k3_196) (fun _ h9 => h9) hgm d_CA_solve_1 ?_
  refine va_get (D := D) (ci := 6) (v := .int 0) (C := R_Ga) (T := T_Ga) (N := 19) hx hb hg i_Ga hown hK hP 1 rfl rfl 0 (by decide) (hg _ k2_138) (fun _ h9 => h9) hv d_CA_solve_4 ?_
  refine lv_if_ne (tgt := 18) hx hb d_CA_solve_7 (by decide) (fun c7 => absurd rfl c7) (fun c7 => ?_)
  exact zThrow hx htp hb hml hl.1 ht hh hg hown hlocks h2 hS (by decide) zA_ISE k7_211 k1_33 d_CA_solve_10 d_CA_solve_13 d_CA_solve_14 d_CA_solve_17 (Nat.le_of_ble_eq_true rfl) (Nat.le_of_ble_eq_true rfl) (Nat.le_of_ble_eq_true rfl) (Nat.le_of_ble_eq_true rfl) (rfl)
set_option maxHeartbeats 4000000 in
set_option maxRecDepth 100000 in
theorem c_CA_adopt_0 (l : Launch) (htr : l.stackTraces = false) (D : va_G) (tA : Nat → ClassId) (sz lim : Nat) (h0 : Nat) (fs : List Value) (v0 : Nat) (vs : List Value) (hvl : fs[11]? = some (.ref v0)) (hkv : vs[1]? = some (.int 0)) : zMt l ({ cls := "ChanceArena", name := "adopt", desc := "()V" } : Jvm.MethodName) (zW (Jvm.Cond.code ({ cls := "ChanceArena", name := "adopt", desc := "()V" } : Jvm.MethodName) prog_1_method_22_code (2 : Nat) (Option.none : Option Jvm.ClassFile.FieldType))) { frames := 6, cells := 1, slots := 6, locals := 88 } [.ref h0] D tA [(h0, .inr (0, fs)), (v0, .inr (12, vs))] sz lim (fun E => E = "java/lang/IllegalStateException") := by
  refine zOpenX (lv := [(0, .ref h0)]) htr (by decide) rfl (Nat.le_of_ble_eq_true rfl) rfl ?_
  intro p e s m below meth c ls hx htp hb hml ht hh hg hown hlocks hK hP hD0 h2 hS hl
  have hA : ∀ q, s.heap.size ≤ q → (fun q => s.heap.size ≤ q) q := fun _ h => h
  refine lv_aload_n hx hb d_CA_adopt_0 rfl (lv_at hl 0 rfl) ?_
  refine va_get (D := D) (ci := 0) (v := .ref v0) (C := R_CA) (T := T_CA) (N := 19) hx hb hg i_CA hown hK hP 0 rfl rfl 11 (by decide) (hg _ k3_198) (fun _ h9 => h9) hvl d_CA_adopt_1 ?_
  refine va_get (D := D) (ci := 12) (v := .int 0) (C := R_Fs) (T := T_Fs) (N := 2) hx hb hg i_Fs hown hK hP 1 rfl rfl 1 (by decide) (hg _ k3_177) (fun _ h9 => h9) hkv d_CA_adopt_4 ?_
  refine lv_if_ne (tgt := 18) hx hb d_CA_adopt_7 (by decide) (fun c7 => absurd rfl c7) (fun c7 => ?_)
  exact zThrow hx htp hb hml hl.1 ht hh hg hown hlocks h2 hS (by decide) zA_ISE k7_211 k1_33 d_CA_adopt_10 d_CA_adopt_13 d_CA_adopt_14 d_CA_adopt_17 (Nat.le_of_ble_eq_true rfl) (Nat.le_of_ble_eq_true rfl) (Nat.le_of_ble_eq_true rfl) (Nat.le_of_ble_eq_true rfl) (rfl)
set_option maxHeartbeats 4000000 in
set_option maxRecDepth 100000 in
theorem c_CA_variable_0 (l : Launch) (htr : l.stackTraces = false) (D : va_G) (tA : Nat → ClassId) (sz lim : Nat) (h0 g0 : Nat) (fs gs : List Value) (hgm : fs[9]? = some (.ref g0)) (hv : gs[0]? = some (.int (nI 0))) (k v : Int32) : zMt l ({ cls := "ChanceArena", name := "variable", desc := "(II)I" } : Jvm.MethodName) (zW (Jvm.Cond.code ({ cls := "ChanceArena", name := "variable", desc := "(II)I" } : Jvm.MethodName) prog_1_method_13_code (3 : Nat) (Option.some Jvm.ClassFile.FieldType.int))) { frames := 6, cells := 1, slots := 6, locals := 88 } [.ref h0, .int k, .int v] D tA [(h0, .inr (0, fs)), (g0, .inr (6, gs))] sz lim (fun E => E = "java/lang/IndexOutOfBoundsException") := by
  refine zOpenX (lv := [(0, .ref h0), (1, .int k), (2, .int v)]) htr (by decide) rfl (Nat.le_of_ble_eq_true rfl) rfl ?_
  intro p e s m below meth c ls hx htp hb hml ht hh hg hown hlocks hK hP hD0 h2 hS hl
  have hA : ∀ q, s.heap.size ≤ q → (fun q => s.heap.size ≤ q) q := fun _ h => h
  refine lv_aload_n hx hb d_CA_variable_0 rfl (lv_at hl 0 rfl) ?_
  refine va_get (D := D) (ci := 0) (v := .ref g0) (C := R_CA) (T := T_CA) (N := 19) hx hb hg i_CA hown hK hP 0 rfl rfl 9 (by decide) (hg _ k3_196) (fun _ h9 => h9) hgm d_CA_variable_1 ?_
  refine lv_iload_n hx hb d_CA_variable_4 rfl (lv_at hl 1 rfl) ?_
  refine zCallp hP hS hA (va_runV (As := [.int k]) (rest := []) ⟨hx, hb, hml, hown, hg⟩ (c_Ga_hasState l D tA _ g0 gs (nI 0) k hv) (zV 1 hg k5_149 k5_150 k5_151 k1_7 k5_152 rfl rfl (by decide +kernel) ⟨(Nat.le_of_ble_eq_true rfl), (Nat.le_of_ble_eq_true rfl)⟩) (zPreV hh hK hP hD0 [1] (by decide) rfl (ci := 6) rfl 0 rfl) rfl rfl hl.1 rfl (lv_room (Nat.le_of_ble_eq_true rfl)) d_CA_variable_5 ⟨(Nat.le_of_ble_eq_true rfl), (Nat.le_of_ble_eq_true rfl)⟩) (fun r5 H locs er5 hP hS => ?_)
  refine lv_if_eq (tgt := 26) hx hb d_CA_variable_8 (by decide) (fun c8 => ?_) (fun c8 => absurd (zHS0 er5) c8)
  exact zThrow hx htp hb hml hl.1 ht hh hg hown hlocks h2 hS (by decide) zA_IOB k8_47 k1_34 d_CA_variable_26 d_CA_variable_29 d_CA_variable_30 d_CA_variable_33 (Nat.le_of_ble_eq_true rfl) (Nat.le_of_ble_eq_true rfl) (Nat.le_of_ble_eq_true rfl) (Nat.le_of_ble_eq_true rfl) (rfl)
set_option maxHeartbeats 4000000 in
set_option maxRecDepth 100000 in
theorem c_CA_choose_0 (l : Launch) (htr : l.stackTraces = false) (D : va_G) (tA : Nat → ClassId) (sz lim : Nat) (h0 g0 : Nat) (fs gs : List Value) (hgm : fs[9]? = some (.ref g0)) (hv : gs[0]? = some (.int (nI 0))) (fa : Nat) (ff : Nat → Int32) (hf : gs[4]? = some (.ref fa)) (k i : Int32) : zMt l ({ cls := "ChanceArena", name := "choose", desc := "(II)V" } : Jvm.MethodName) (zW (Jvm.Cond.code ({ cls := "ChanceArena", name := "choose", desc := "(II)V" } : Jvm.MethodName) prog_1_method_21_code (3 : Nat) (Option.none : Option Jvm.ClassFile.FieldType))) { frames := 6, cells := 1, slots := 6, locals := 88 } [.ref h0, .int k, .int i] D tA [(h0, .inr (0, fs)), (g0, .inr (6, gs)), (fa, .inl (tA 0, 513, .inl ff))] sz lim (fun E => E = "java/lang/IndexOutOfBoundsException") := by
  refine zOpenX (lv := [(0, .ref h0), (1, .int k), (2, .int i)]) htr (by decide) rfl (Nat.le_of_ble_eq_true rfl) rfl ?_
  intro p e s m below meth c ls hx htp hb hml ht hh hg hown hlocks hK hP hD0 h2 hS hl
  have hA : ∀ q, s.heap.size ≤ q → (fun q => s.heap.size ≤ q) q := fun _ h => h
  refine lv_aload_n hx hb d_CA_choose_0 rfl (lv_at hl 0 rfl) ?_
  refine va_get (D := D) (ci := 0) (v := .ref g0) (C := R_CA) (T := T_CA) (N := 19) hx hb hg i_CA hown hK hP 0 rfl rfl 9 (by decide) (hg _ k3_196) (fun _ h9 => h9) hgm d_CA_choose_1 ?_
  refine lv_iload_n hx hb d_CA_choose_4 rfl (lv_at hl 1 rfl) ?_
  refine lv_iload_n hx hb d_CA_choose_5 rfl (lv_at hl 2 rfl) ?_
  refine zCallp hP hS hA (va_runV (As := [.int k, .int i]) (rest := []) ⟨hx, hb, hml, hown, hg⟩ (c_Ga_commandAt l D tA _ g0 fa gs 0 k i ff (by decide) hv hf) (zV 2 hg k5_161 k5_162 k5_163 k1_7 k5_164 rfl rfl (by decide +kernel) ⟨(Nat.le_of_ble_eq_true rfl), (Nat.le_of_ble_eq_true rfl)⟩) (zPreV hh hK hP hD0 [1, 2] (by decide) rfl (ci := 6) rfl 0 rfl) rfl rfl hl.1 rfl (lv_room (Nat.le_of_ble_eq_true rfl)) d_CA_choose_6 ⟨(Nat.le_of_ble_eq_true rfl), (Nat.le_of_ble_eq_true rfl)⟩) (fun r6 H locs er6 hP hS => ?_)
  refine lv_iconst (v := (-1)) hx hb d_CA_choose_9 (by decide) ?_
  refine lv_icmp_ne (tgt := 21) hx hb d_CA_choose_10 (by decide) (fun c10 => absurd (zCA0 er6) c10) (fun c10 => ?_)
  exact zThrow hx htp hb hml hl.1 ht hh hg hown hlocks h2 hS (by decide) zA_IOB k8_47 k1_34 d_CA_choose_13 d_CA_choose_16 d_CA_choose_17 d_CA_choose_20 (Nat.le_of_ble_eq_true rfl) (Nat.le_of_ble_eq_true rfl) (Nat.le_of_ble_eq_true rfl) (Nat.le_of_ble_eq_true rfl) (rfl)
set_option maxHeartbeats 4000000 in
set_option maxRecDepth 100000 in
theorem c_CA_within_0 (l : Launch) (htr : l.stackTraces = false) (D : va_G) (tA : Nat → ClassId) (sz lim : Nat) (h0 g0 : Nat) (fs gs : List Value) (hgm : fs[9]? = some (.ref g0)) (hv : gs[0]? = some (.int 0)) (n : Int32) : zMt l ({ cls := "ChanceArena", name := "within", desc := "(I)I" } : Jvm.MethodName) (zW (Jvm.Cond.code ({ cls := "ChanceArena", name := "within", desc := "(I)I" } : Jvm.MethodName) prog_1_method_20_code (4 : Nat) (Option.some Jvm.ClassFile.FieldType.int))) { frames := 6, cells := 1, slots := 6, locals := 88 } [.ref h0, .int n] D tA [(h0, .inr (0, fs)), (g0, .inr (6, gs))] sz lim (fun E => E = if n < 0 ∨ ¬ n ≤ 32 then "java/lang/IllegalArgumentException" else "java/lang/IllegalStateException") := by
  refine zOpenX (lv := [(0, .ref h0), (1, .int n)]) htr (by decide) rfl (Nat.le_of_ble_eq_true rfl) rfl ?_
  intro p e s m below meth c ls hx htp hb hml ht hh hg hown hlocks hK hP hD0 h2 hS hl
  have hA : ∀ q, s.heap.size ≤ q → (fun q => s.heap.size ≤ q) q := fun _ h => h
  refine lv_iload_n hx hb d_CA_within_0 rfl (lv_at hl 1 rfl) ?_
  refine lv_if_lt (tgt := 10) hx hb d_CA_within_1 (by decide) (fun c1 => ?_) (fun c1 => ?_)
  · exact zThrow hx htp hb hml hl.1 ht hh hg hown hlocks h2 hS (by decide) zA_IAE k7_192 k1_25 d_CA_within_10 d_CA_within_13 d_CA_within_14 d_CA_within_17 (Nat.le_of_ble_eq_true rfl) (Nat.le_of_ble_eq_true rfl) (Nat.le_of_ble_eq_true rfl) (Nat.le_of_ble_eq_true rfl) ((if_pos (Or.inl c1)).symm)
  · refine lv_iload_n hx hb d_CA_within_4 rfl (lv_at hl 1 rfl) ?_
    refine lv_bipush (v := 32) hx hb d_CA_within_5 (by decide) ?_
    refine lv_icmp_le (tgt := 18) hx hb d_CA_within_7 (by decide) (fun c7 => ?_) (fun c7 => ?_)
    · refine lv_aload_n hx hb d_CA_within_18 rfl (lv_at hl 0 rfl) ?_
      refine va_get (D := D) (ci := 0) (v := .ref g0) (C := R_CA) (T := T_CA) (N := 19) hx hb hg i_CA hown hK hP 0 rfl rfl 9 (by decide) (hg _ k3_196) (fun _ h9 => h9) hgm d_CA_within_19 ?_
      refine va_get (D := D) (ci := 6) (v := .int 0) (C := R_Ga) (T := T_Ga) (N := 19) hx hb hg i_Ga hown hK hP 1 rfl rfl 0 (by decide) (hg _ k2_138) (fun _ h9 => h9) hv d_CA_within_22 ?_
      refine lv_if_ne (tgt := 36) hx hb d_CA_within_25 (by decide) (fun c25 => absurd rfl c25) (fun c25 => ?_)
      exact zThrow hx htp hb hml hl.1 ht hh hg hown hlocks h2 hS (by decide) zA_ISE k7_211 k1_33 d_CA_within_28 d_CA_within_31 d_CA_within_32 d_CA_within_35 (Nat.le_of_ble_eq_true rfl) (Nat.le_of_ble_eq_true rfl) (Nat.le_of_ble_eq_true rfl) (Nat.le_of_ble_eq_true rfl) ((if_neg (fun h => h.elim (fun h => c1 h) (fun h => h c7))).symm)
    · exact zThrow hx htp hb hml hl.1 ht hh hg hown hlocks h2 hS (by decide) zA_IAE k7_192 k1_25 d_CA_within_10 d_CA_within_13 d_CA_within_14 d_CA_within_17 (Nat.le_of_ble_eq_true rfl) (Nat.le_of_ble_eq_true rfl) (Nat.le_of_ble_eq_true rfl) (Nat.le_of_ble_eq_true rfl) ((if_pos (Or.inr c7)).symm)
set_option maxHeartbeats 4000000 in
set_option maxRecDepth 100000 in
theorem c_CA_judge_0 (l : Launch) (htr : l.stackTraces = false) (D : va_G) (tA : Nat → ClassId) (sz lim : Nat) (h0 g0 : Nat) (fs gs : List Value) (hgm : fs[9]? = some (.ref g0)) (hv : gs[0]? = some (.int 0)) (n : Int32) : zMt l ({ cls := "ChanceArena", name := "judge", desc := "(I)I" } : Jvm.MethodName) (zW (Jvm.Cond.code ({ cls := "ChanceArena", name := "judge", desc := "(I)I" } : Jvm.MethodName) prog_1_method_23_code (2 : Nat) (Option.some Jvm.ClassFile.FieldType.int))) { frames := 6, cells := 1, slots := 6, locals := 88 } [.ref h0, .int n] D tA [(h0, .inr (0, fs)), (g0, .inr (6, gs))] sz lim (fun E => E = if n = 1 ∨ n = 2 then "java/lang/IllegalStateException" else "java/lang/IllegalArgumentException") := by
  refine zOpenX (lv := [(0, .ref h0), (1, .int n)]) htr (by decide) rfl (Nat.le_of_ble_eq_true rfl) rfl ?_
  intro p e s m below meth c ls hx htp hb hml ht hh hg hown hlocks hK hP hD0 h2 hS hl
  have hA : ∀ q, s.heap.size ≤ q → (fun q => s.heap.size ≤ q) q := fun _ h => h
  refine lv_iload_n hx hb d_CA_judge_0 rfl (lv_at hl 1 rfl) ?_
  refine lv_iconst (v := 1) hx hb d_CA_judge_1 (by decide) ?_
  refine lv_icmp_eq (tgt := 18) hx hb d_CA_judge_2 (by decide) (fun c2 => ?_) (fun c2 => ?_)
  · refine lv_aload_n hx hb d_CA_judge_18 rfl (lv_at hl 0 rfl) ?_
    refine va_get (D := D) (ci := 0) (v := .ref g0) (C := R_CA) (T := T_CA) (N := 19) hx hb hg i_CA hown hK hP 0 rfl rfl 9 (by decide) (hg _ k3_196) (fun _ h9 => h9) hgm d_CA_judge_19 ?_
    refine va_get (D := D) (ci := 6) (v := .int 0) (C := R_Ga) (T := T_Ga) (N := 19) hx hb hg i_Ga hown hK hP 1 rfl rfl 0 (by decide) (hg _ k2_138) (fun _ h9 => h9) hv d_CA_judge_22 ?_
    refine lv_if_ne (tgt := 36) hx hb d_CA_judge_25 (by decide) (fun c25 => absurd rfl c25) (fun c25 => ?_)
    exact zThrow hx htp hb hml hl.1 ht hh hg hown hlocks h2 hS (by decide) zA_ISE k7_211 k1_33 d_CA_judge_28 d_CA_judge_31 d_CA_judge_32 d_CA_judge_35 (Nat.le_of_ble_eq_true rfl) (Nat.le_of_ble_eq_true rfl) (Nat.le_of_ble_eq_true rfl) (Nat.le_of_ble_eq_true rfl) ((if_pos (Or.inl c2)).symm)
  · refine lv_iload_n hx hb d_CA_judge_5 rfl (lv_at hl 1 rfl) ?_
    refine lv_iconst (v := 2) hx hb d_CA_judge_6 (by decide) ?_
    refine lv_icmp_eq (tgt := 18) hx hb d_CA_judge_7 (by decide) (fun c7 => ?_) (fun c7 => ?_)
    · refine lv_aload_n hx hb d_CA_judge_18 rfl (lv_at hl 0 rfl) ?_
      refine va_get (D := D) (ci := 0) (v := .ref g0) (C := R_CA) (T := T_CA) (N := 19) hx hb hg i_CA hown hK hP 0 rfl rfl 9 (by decide) (hg _ k3_196) (fun _ h9 => h9) hgm d_CA_judge_19 ?_
      refine va_get (D := D) (ci := 6) (v := .int 0) (C := R_Ga) (T := T_Ga) (N := 19) hx hb hg i_Ga hown hK hP 1 rfl rfl 0 (by decide) (hg _ k2_138) (fun _ h9 => h9) hv d_CA_judge_22 ?_
      refine lv_if_ne (tgt := 36) hx hb d_CA_judge_25 (by decide) (fun c25 => absurd rfl c25) (fun c25 => ?_)
      exact zThrow hx htp hb hml hl.1 ht hh hg hown hlocks h2 hS (by decide) zA_ISE k7_211 k1_33 d_CA_judge_28 d_CA_judge_31 d_CA_judge_32 d_CA_judge_35 (Nat.le_of_ble_eq_true rfl) (Nat.le_of_ble_eq_true rfl) (Nat.le_of_ble_eq_true rfl) (Nat.le_of_ble_eq_true rfl) ((if_pos (Or.inr c7)).symm)
    · exact zThrow hx htp hb hml hl.1 ht hh hg hown hlocks h2 hS (by decide) zA_IAE k7_192 k1_25 d_CA_judge_10 d_CA_judge_13 d_CA_judge_14 d_CA_judge_17 (Nat.le_of_ble_eq_true rfl) (Nat.le_of_ble_eq_true rfl) (Nat.le_of_ble_eq_true rfl) (Nat.le_of_ble_eq_true rfl) ((if_neg (fun h => h.elim (fun h => c2 h) (fun h => c7 h))).symm)
