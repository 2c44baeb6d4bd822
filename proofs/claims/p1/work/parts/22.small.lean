theorem k2_134 : (Jvm.Cond.fieldLink "ChanceArena$Game" (55 : Nat) "ChanceArena$Game" "count" "I") ∈ lw_R := zR (zk_2 _ (List.mem_of_getElem? (i := 134) (by decide +kernel))) rfl
theorem k2_138 : (Jvm.Cond.fieldLink "ChanceArena" (160 : Nat) "ChanceArena$Game" "count" "I") ∈ lw_R := zR (zk_2 _ (List.mem_of_getElem? (i := 138) (by decide +kernel))) rfl
theorem k2_145 : (Jvm.Cond.fieldLink "ChanceArena" (174 : Nat) "ChanceArena$Game" "sorts" "[I") ∈ lw_R := zR (zk_2 _ (List.mem_of_getElem? (i := 145) (by decide +kernel))) rfl
theorem k2_152 : (Jvm.Cond.fieldLink "ChanceArena" (177 : Nat) "ChanceArena$Game" "firstCommand" "[I") ∈ lw_R := zR (zk_2 _ (List.mem_of_getElem? (i := 152) (by decide +kernel))) rfl
theorem k5_132 : (Jvm.Cond.code ({ cls := "ChanceArena", name := "place", desc := "()I" } : Jvm.MethodName) prog_1_method_8_code (1 : Nat) (Option.some Jvm.ClassFile.FieldType.int)) ∈ lw_R := zR (zk_5 _ (List.mem_of_getElem? (i := 132) (by decide +kernel))) rfl
theorem k5_140 : (Jvm.Cond.code ({ cls := "ChanceArena", name := "state", desc := "()I" } : Jvm.MethodName) prog_1_method_11_code (1 : Nat) (Option.some Jvm.ClassFile.FieldType.int)) ∈ lw_R := zR (zk_5 _ (List.mem_of_getElem? (i := 140) (by decide +kernel))) rfl
theorem k5_144 : (Jvm.Cond.code ({ cls := "ChanceArena", name := "states", desc := "()I" } : Jvm.MethodName) prog_1_method_12_code (1 : Nat) (Option.some Jvm.ClassFile.FieldType.int)) ∈ lw_R := zR (zk_5 _ (List.mem_of_getElem? (i := 144) (by decide +kernel))) rfl
theorem k5_148 : (Jvm.Cond.code ({ cls := "ChanceArena", name := "kind", desc := "(I)I" } : Jvm.MethodName) prog_1_method_14_code (2 : Nat) (Option.some Jvm.ClassFile.FieldType.int)) ∈ lw_R := zR (zk_5 _ (List.mem_of_getElem? (i := 148) (by decide +kernel))) rfl
theorem k5_149 : (Jvm.Cond.methodLink "ChanceArena" (163 : Nat) ({ cls := "ChanceArena$Game", name := "hasState", desc := "(I)Z" } : Jvm.MethodName)) ∈ lw_R := zR (zk_5 _ (List.mem_of_getElem? (i := 149) (by decide +kernel))) rfl
theorem k5_150 : (Jvm.Cond.instanceMethod ({ cls := "ChanceArena$Game", name := "hasState", desc := "(I)Z" } : Jvm.MethodName)) ∈ lw_R := zR (zk_5 _ (List.mem_of_getElem? (i := 150) (by decide +kernel))) rfl
theorem k5_151 : (Jvm.Cond.selects "ChanceArena$Game" ({ cls := "ChanceArena$Game", name := "hasState", desc := "(I)Z" } : Jvm.MethodName) ({ cls := "ChanceArena$Game", name := "hasState", desc := "(I)Z" } : Jvm.MethodName)) ∈ lw_R := zR (zk_5 _ (List.mem_of_getElem? (i := 151) (by decide +kernel))) rfl
theorem k5_152 : (Jvm.Cond.code ({ cls := "ChanceArena$Game", name := "hasState", desc := "(I)Z" } : Jvm.MethodName) prog_4_method_3_code (2 : Nat) (Option.some Jvm.ClassFile.FieldType.boolean)) ∈ lw_R := zR (zk_5 _ (List.mem_of_getElem? (i := 152) (by decide +kernel))) rfl
theorem k5_156 : (Jvm.Cond.code ({ cls := "ChanceArena", name := "commands", desc := "(I)I" } : Jvm.MethodName) prog_1_method_15_code (2 : Nat) (Option.some Jvm.ClassFile.FieldType.int)) ∈ lw_R := zR (zk_5 _ (List.mem_of_getElem? (i := 156) (by decide +kernel))) rfl
theorem k5_164 : (Jvm.Cond.code ({ cls := "ChanceArena$Game", name := "commandAt", desc := "(II)I" } : Jvm.MethodName) prog_4_method_4_code (3 : Nat) (Option.some Jvm.ClassFile.FieldType.int)) ∈ lw_R := zR (zk_5 _ (List.mem_of_getElem? (i := 164) (by decide +kernel))) rfl
theorem k5_165 : (Jvm.Cond.methodLink "ChanceArena$Game" (65 : Nat) ({ cls := "ChanceArena$Game", name := "hasState", desc := "(I)Z" } : Jvm.MethodName)) ∈ lw_R := zR (zk_5 _ (List.mem_of_getElem? (i := 165) (by decide +kernel))) rfl
theorem d_CA_place_0 : decode prog_1_method_8_code 0 = .ok (.aload_n 0, 1) := dc9_42 (by decide +kernel)
theorem d_CA_place_1 : decode prog_1_method_8_code 1 = .ok (.getfield 45, 3) := dc9_180 (by decide +kernel)
theorem d_CA_place_4 : decode prog_1_method_8_code 4 = .ok (.ireturn, 1) := dc9_172 (by decide +kernel)
theorem d_CA_state_0 : decode prog_1_method_11_code 0 = .ok (.aload_n 0, 1) := dc9_42 (by decide +kernel)
theorem d_CA_state_1 : decode prog_1_method_11_code 1 = .ok (.getfield 48, 3) := dc9_180 (by decide +kernel)
theorem d_CA_state_4 : decode prog_1_method_11_code 4 = .ok (.ireturn, 1) := dc9_172 (by decide +kernel)
theorem d_CA_states_0 : decode prog_1_method_12_code 0 = .ok (.aload_n 0, 1) := dc9_42 (by decide +kernel)
theorem d_CA_states_1 : decode prog_1_method_12_code 1 = .ok (.getfield 54, 3) := dc9_180 (by decide +kernel)
theorem d_CA_states_4 : decode prog_1_method_12_code 4 = .ok (.getfield 160, 3) := dc9_180 (by decide +kernel)
theorem d_CA_states_7 : decode prog_1_method_12_code 7 = .ok (.ireturn, 1) := dc9_172 (by decide +kernel)
theorem d_Ga_hasState_0 : decode prog_4_method_3_code 0 = .ok (.iload_n 1, 1) := dc9_27 (by decide +kernel)
theorem d_Ga_hasState_1 : decode prog_4_method_3_code 1 = .ok (.ifCond .lt 15, 3) := dc9_155 (by decide +kernel)
theorem d_Ga_hasState_16 : decode prog_4_method_3_code 16 = .ok (.iconst 0, 1) := dc9_3 (by decide +kernel)
theorem d_Ga_hasState_17 : decode prog_4_method_3_code 17 = .ok (.ireturn, 1) := dc9_172 (by decide +kernel)
theorem d_Ga_hasState_4 : decode prog_4_method_3_code 4 = .ok (.iload_n 1, 1) := dc9_27 (by decide +kernel)
theorem d_Ga_hasState_5 : decode prog_4_method_3_code 5 = .ok (.aload_n 0, 1) := dc9_42 (by decide +kernel)
theorem d_Ga_hasState_6 : decode prog_4_method_3_code 6 = .ok (.getfield 55, 3) := dc9_180 (by decide +kernel)
theorem d_Ga_hasState_9 : decode prog_4_method_3_code 9 = .ok (.if_icmp .ge 7, 3) := dc9_162 (by decide +kernel)
theorem d_Ga_hasState_12 : decode prog_4_method_3_code 12 = .ok (.iconst 1, 1) := dc9_4 (by decide +kernel)
theorem d_Ga_hasState_13 : decode prog_4_method_3_code 13 = .ok (.goto 4, 3) := dc9_167 (by decide +kernel)
theorem d_Ga_commandAt_0 : decode prog_4_method_4_code 0 = .ok (.aload_n 0, 1) := dc9_42 (by decide +kernel)
theorem d_Ga_commandAt_1 : decode prog_4_method_4_code 1 = .ok (.iload_n 1, 1) := dc9_27 (by decide +kernel)
theorem d_Ga_commandAt_2 : decode prog_4_method_4_code 2 = .ok (.invokevirtual 65, 3) := dc9_182 (by decide +kernel)
theorem d_Ga_commandAt_5 : decode prog_4_method_4_code 5 = .ok (.ifCond .eq 26, 3) := dc9_153 (by decide +kernel)
theorem d_Ga_commandAt_31 : decode prog_4_method_4_code 31 = .ok (.iconst (-1), 1) := dc9_2 (by decide +kernel)
theorem d_Ga_commandAt_32 : decode prog_4_method_4_code 32 = .ok (.ireturn, 1) := dc9_172 (by decide +kernel)
theorem d_Ga_commandAt_8 : decode prog_4_method_4_code 8 = .ok (.iload_n 2, 1) := dc9_28 (by decide +kernel)
theorem d_Ga_commandAt_9 : decode prog_4_method_4_code 9 = .ok (.ifCond .lt 22, 3) := dc9_155 (by decide +kernel)
theorem d_Ga_commandAt_12 : decode prog_4_method_4_code 12 = .ok (.iload_n 2, 1) := dc9_28 (by decide +kernel)
theorem d_Ga_commandAt_13 : decode prog_4_method_4_code 13 = .ok (.aload_n 0, 1) := dc9_42 (by decide +kernel)
theorem d_Ga_commandAt_14 : decode prog_4_method_4_code 14 = .ok (.getfield 21, 3) := dc9_180 (by decide +kernel)
theorem d_Ga_commandAt_17 : decode prog_4_method_4_code 17 = .ok (.iload_n 1, 1) := dc9_27 (by decide +kernel)
theorem d_Ga_commandAt_18 : decode prog_4_method_4_code 18 = .ok (.iconst 1, 1) := dc9_4 (by decide +kernel)
theorem d_Ga_commandAt_19 : decode prog_4_method_4_code 19 = .ok (.iadd, 1) := dc9_96 (by decide +kernel)
theorem d_Ga_commandAt_20 : decode prog_4_method_4_code 20 = .ok (.iaload, 1) := dc9_46 (by decide +kernel)
theorem d_Ga_commandAt_21 : decode prog_4_method_4_code 21 = .ok (.aload_n 0, 1) := dc9_42 (by decide +kernel)
theorem d_Ga_commandAt_22 : decode prog_4_method_4_code 22 = .ok (.getfield 21, 3) := dc9_180 (by decide +kernel)
theorem d_Ga_commandAt_25 : decode prog_4_method_4_code 25 = .ok (.iload_n 1, 1) := dc9_27 (by decide +kernel)
theorem d_Ga_commandAt_26 : decode prog_4_method_4_code 26 = .ok (.iaload, 1) := dc9_46 (by decide +kernel)
theorem d_Ga_commandAt_27 : decode prog_4_method_4_code 27 = .ok (.isub, 1) := dc9_100 (by decide +kernel)
theorem d_Ga_commandAt_28 : decode prog_4_method_4_code 28 = .ok (.if_icmp .lt 5, 3) := dc9_161 (by decide +kernel)
theorem d_Ga_commandAt_33 : decode prog_4_method_4_code 33 = .ok (.aload_n 0, 1) := dc9_42 (by decide +kernel)
theorem d_Ga_commandAt_34 : decode prog_4_method_4_code 34 = .ok (.getfield 21, 3) := dc9_180 (by decide +kernel)
theorem d_Ga_commandAt_37 : decode prog_4_method_4_code 37 = .ok (.iload_n 1, 1) := dc9_27 (by decide +kernel)
theorem d_Ga_commandAt_38 : decode prog_4_method_4_code 38 = .ok (.iaload, 1) := dc9_46 (by decide +kernel)
theorem d_Ga_commandAt_39 : decode prog_4_method_4_code 39 = .ok (.iload_n 2, 1) := dc9_28 (by decide +kernel)
theorem d_Ga_commandAt_40 : decode prog_4_method_4_code 40 = .ok (.iadd, 1) := dc9_96 (by decide +kernel)
theorem d_Ga_commandAt_41 : decode prog_4_method_4_code 41 = .ok (.ireturn, 1) := dc9_172 (by decide +kernel)
theorem d_CA_kind_0 : decode prog_1_method_14_code 0 = .ok (.aload_n 0, 1) := dc9_42 (by decide +kernel)
theorem d_CA_kind_1 : decode prog_1_method_14_code 1 = .ok (.getfield 54, 3) := dc9_180 (by decide +kernel)
theorem d_CA_kind_4 : decode prog_1_method_14_code 4 = .ok (.iload_n 1, 1) := dc9_27 (by decide +kernel)
theorem d_CA_kind_5 : decode prog_1_method_14_code 5 = .ok (.invokevirtual 163, 3) := dc9_182 (by decide +kernel)
theorem d_CA_kind_8 : decode prog_1_method_14_code 8 = .ok (.ifCond .eq 15, 3) := dc9_153 (by decide +kernel)
theorem d_CA_kind_23 : decode prog_1_method_14_code 23 = .ok (.iconst (-1), 1) := dc9_2 (by decide +kernel)
theorem d_CA_kind_24 : decode prog_1_method_14_code 24 = .ok (.ireturn, 1) := dc9_172 (by decide +kernel)
theorem d_CA_kind_11 : decode prog_1_method_14_code 11 = .ok (.aload_n 0, 1) := dc9_42 (by decide +kernel)
theorem d_CA_kind_12 : decode prog_1_method_14_code 12 = .ok (.getfield 54, 3) := dc9_180 (by decide +kernel)
theorem d_CA_kind_15 : decode prog_1_method_14_code 15 = .ok (.getfield 174, 3) := dc9_180 (by decide +kernel)
theorem d_CA_kind_18 : decode prog_1_method_14_code 18 = .ok (.iload_n 1, 1) := dc9_27 (by decide +kernel)
theorem d_CA_kind_19 : decode prog_1_method_14_code 19 = .ok (.iaload, 1) := dc9_46 (by decide +kernel)
theorem d_CA_kind_20 : decode prog_1_method_14_code 20 = .ok (.goto 4, 3) := dc9_167 (by decide +kernel)
theorem d_CA_commands_0 : decode prog_1_method_15_code 0 = .ok (.aload_n 0, 1) := dc9_42 (by decide +kernel)
theorem d_CA_commands_1 : decode prog_1_method_15_code 1 = .ok (.getfield 54, 3) := dc9_180 (by decide +kernel)
theorem d_CA_commands_4 : decode prog_1_method_15_code 4 = .ok (.iload_n 1, 1) := dc9_27 (by decide +kernel)
theorem d_CA_commands_5 : decode prog_1_method_15_code 5 = .ok (.invokevirtual 163, 3) := dc9_182 (by decide +kernel)
theorem d_CA_commands_8 : decode prog_1_method_15_code 8 = .ok (.ifCond .eq 27, 3) := dc9_153 (by decide +kernel)
theorem d_CA_commands_35 : decode prog_1_method_15_code 35 = .ok (.iconst (-1), 1) := dc9_2 (by decide +kernel)
theorem d_CA_commands_36 : decode prog_1_method_15_code 36 = .ok (.ireturn, 1) := dc9_172 (by decide +kernel)
theorem d_CA_commands_11 : decode prog_1_method_15_code 11 = .ok (.aload_n 0, 1) := dc9_42 (by decide +kernel)
theorem d_CA_commands_12 : decode prog_1_method_15_code 12 = .ok (.getfield 54, 3) := dc9_180 (by decide +kernel)
theorem d_CA_commands_15 : decode prog_1_method_15_code 15 = .ok (.getfield 177, 3) := dc9_180 (by decide +kernel)
theorem d_CA_commands_18 : decode prog_1_method_15_code 18 = .ok (.iload_n 1, 1) := dc9_27 (by decide +kernel)
theorem d_CA_commands_19 : decode prog_1_method_15_code 19 = .ok (.iconst 1, 1) := dc9_4 (by decide +kernel)
theorem d_CA_commands_20 : decode prog_1_method_15_code 20 = .ok (.iadd, 1) := dc9_96 (by decide +kernel)
theorem d_CA_commands_21 : decode prog_1_method_15_code 21 = .ok (.iaload, 1) := dc9_46 (by decide +kernel)
theorem d_CA_commands_22 : decode prog_1_method_15_code 22 = .ok (.aload_n 0, 1) := dc9_42 (by decide +kernel)
theorem d_CA_commands_23 : decode prog_1_method_15_code 23 = .ok (.getfield 54, 3) := dc9_180 (by decide +kernel)
theorem d_CA_commands_26 : decode prog_1_method_15_code 26 = .ok (.getfield 177, 3) := dc9_180 (by decide +kernel)
theorem d_CA_commands_29 : decode prog_1_method_15_code 29 = .ok (.iload_n 1, 1) := dc9_27 (by decide +kernel)
theorem d_CA_commands_30 : decode prog_1_method_15_code 30 = .ok (.iaload, 1) := dc9_46 (by decide +kernel)
theorem d_CA_commands_31 : decode prog_1_method_15_code 31 = .ok (.isub, 1) := dc9_100 (by decide +kernel)
theorem d_CA_commands_32 : decode prog_1_method_15_code 32 = .ok (.goto 4, 3) := dc9_167 (by decide +kernel)
set_option maxHeartbeats 4000000 in
set_option maxRecDepth 100000 in
theorem c_CA_place (l : Launch) (D : va_G) (tA : Nat → ClassId) (sz : Nat) (h0 : Nat) (fs : List Value) (v : Int32) (hv : fs[7]? = some (.int v)) : zMp l ({ cls := "ChanceArena", name := "place", desc := "()I" } : Jvm.MethodName) (zW (Jvm.Cond.code ({ cls := "ChanceArena", name := "place", desc := "()I" } : Jvm.MethodName) prog_1_method_8_code (1 : Nat) (Option.some Jvm.ClassFile.FieldType.int))) { frames := 0, cells := 0, slots := 0, locals := 0 } [.ref h0] D tA [(h0, .inr (0, fs))] sz (fun r => r = v) := by
  refine zOpen (Wm := []) (fun A => va_Qi (fun r (_ : Unit) => (fun r => r = v) r) (fun _ _ => True) A) (lv := [(0, .ref h0)]) (by decide) rfl (Nat.le_of_ble_eq_true rfl) rfl ?_
  intro p e s m below meth c A ls hx hb hr hml hh hg hown hlocks hnm hK hA hP hD0 hAw hS hl
  refine lv_aload_n hx hb d_CA_place_0 rfl (lv_at hl 0 rfl) ?_
  refine va_get (D := D) (ci := 0) (v := .int v) (C := R_CA) (T := T_CA) (N := 19) hx hb hg i_CA hown hK hP 0 rfl rfl 7 (by decide) (hg _ k3_194) (fun _ h9 => h9) hv d_CA_place_1 ?_
  exact zPret (post := fun r => r = v) (v := v) hx hb hr rfl hlocks hS (rfl) d_CA_place_4
set_option maxHeartbeats 4000000 in
set_option maxRecDepth 100000 in
theorem c_CA_state (l : Launch) (D : va_G) (tA : Nat → ClassId) (sz : Nat) (h0 : Nat) (fs : List Value) (v : Int32) (hv : fs[8]? = some (.int v)) : zMp l ({ cls := "ChanceArena", name := "state", desc := "()I" } : Jvm.MethodName) (zW (Jvm.Cond.code ({ cls := "ChanceArena", name := "state", desc := "()I" } : Jvm.MethodName) prog_1_method_11_code (1 : Nat) (Option.some Jvm.ClassFile.FieldType.int))) { frames := 0, cells := 0, slots := 0, locals := 0 } [.ref h0] D tA [(h0, .inr (0, fs))] sz (fun r => r = v) := by
  refine zOpen (Wm := []) (fun A => va_Qi (fun r (_ : Unit) => (fun r => r = v) r) (fun _ _ => True) A) (lv := [(0, .ref h0)]) (by decide) rfl (Nat.le_of_ble_eq_true rfl) rfl ?_
  intro p e s m below meth c A ls hx hb hr hml hh hg hown hlocks hnm hK hA hP hD0 hAw hS hl
  refine lv_aload_n hx hb d_CA_state_0 rfl (lv_at hl 0 rfl) ?_
  refine va_get (D := D) (ci := 0) (v := .int v) (C := R_CA) (T := T_CA) (N := 19) hx hb hg i_CA hown hK hP 0 rfl rfl 8 (by decide) (hg _ k3_195) (fun _ h9 => h9) hv d_CA_state_1 ?_
  exact zPret (post := fun r => r = v) (v := v) hx hb hr rfl hlocks hS (rfl) d_CA_state_4
set_option maxHeartbeats 4000000 in
set_option maxRecDepth 100000 in
theorem c_CA_states (l : Launch) (D : va_G) (tA : Nat → ClassId) (sz : Nat) (h0 g0 : Nat) (fs gs : List Value) (v : Int32) (hgm : fs[9]? = some (.ref g0)) (hv : gs[0]? = some (.int v)) : zMp l ({ cls := "ChanceArena", name := "states", desc := "()I" } : Jvm.MethodName) (zW (Jvm.Cond.code ({ cls := "ChanceArena", name := "states", desc := "()I" } : Jvm.MethodName) prog_1_method_12_code (1 : Nat) (Option.some Jvm.ClassFile.FieldType.int))) { frames := 0, cells := 0, slots := 0, locals := 0 } [.ref h0] D tA [(h0, .inr (0, fs)), (g0, .inr (6, gs))] sz (fun r => r = v) := by
  refine zOpen (Wm := []) (fun A => va_Qi (fun r (_ : Unit) => (fun r => r = v) r) (fun _ _ => True) A) (lv := [(0, .ref h0)]) (by decide) rfl (Nat.le_of_ble_eq_true rfl) rfl ?_
  intro p e s m below meth c A ls hx hb hr hml hh hg hown hlocks hnm hK hA hP hD0 hAw hS hl
  refine lv_aload_n hx hb d_CA_states_0 rfl (lv_at hl 0 rfl) ?_
  refine va_get (D := D) (ci := 0) (v := .ref g0) (C := R_CA) (T := T_CA) (N := 19) hx hb hg i_CA hown hK hP 0 rfl rfl 9 (by decide) (hg _ k3_196) (fun _ h9 => h9) hgm d_CA_states_1 ?_
  refine va_get (D := D) (ci := 6) (v := .int v) (C := R_Ga) (T := T_Ga) (N := 19) hx hb hg i_Ga hown hK hP 1 rfl rfl 0 (by decide) (hg _ k2_138) (fun _ h9 => h9) hv d_CA_states_4 ?_
  exact zPret (post := fun r => r = v) (v := v) hx hb hr rfl hlocks hS (rfl) d_CA_states_7
set_option maxHeartbeats 4000000 in
set_option maxRecDepth 100000 in
theorem c_Ga_hasState (l : Launch) (D : va_G) (tA : Nat → ClassId) (sz : Nat) (h0 : Nat) (fs : List Value) (v k : Int32) (hv : fs[0]? = some (.int v)) : zMp l ({ cls := "ChanceArena$Game", name := "hasState", desc := "(I)Z" } : Jvm.MethodName) (zW (Jvm.Cond.code ({ cls := "ChanceArena$Game", name := "hasState", desc := "(I)Z" } : Jvm.MethodName) prog_4_method_3_code (2 : Nat) (Option.some Jvm.ClassFile.FieldType.boolean))) { frames := 0, cells := 0, slots := 0, locals := 0 } [.ref h0, .int k] D tA [(h0, .inr (6, fs))] sz (fun r => r = if 0 ≤ k ∧ k < v then 1 else 0) := by
  refine zOpen (Wm := []) (fun A => va_Qi (fun r (_ : Unit) => (fun r => r = if 0 ≤ k ∧ k < v then 1 else 0) r) (fun _ _ => True) A) (lv := [(0, .ref h0), (1, .int k)]) (by decide) rfl (Nat.le_of_ble_eq_true rfl) rfl ?_
  intro p e s m below meth c A ls hx hb hr hml hh hg hown hlocks hnm hK hA hP hD0 hAw hS hl
  refine lv_iload_n hx hb d_Ga_hasState_0 rfl (lv_at hl 1 rfl) ?_
  refine lv_if_lt (tgt := 16) hx hb d_Ga_hasState_1 (by decide) (fun c1 => ?_) (fun c1 => ?_)
  · refine lv_iconst (v := 0) hx hb d_Ga_hasState_16 (by decide) ?_
    exact zPret (post := fun r => r = if 0 ≤ k ∧ k < v then 1 else 0) (v := 0) hx hb hr rfl hlocks hS ((if_neg (fun h => absurd c1 (Int32.not_lt.mpr h.1))).symm) d_Ga_hasState_17
  · refine lv_iload_n hx hb d_Ga_hasState_4 rfl (lv_at hl 1 rfl) ?_
    refine lv_aload_n hx hb d_Ga_hasState_5 rfl (lv_at hl 0 rfl) ?_
    refine va_get (D := D) (ci := 6) (v := .int v) (C := R_Ga) (T := T_Ga) (N := 19) hx hb hg i_Ga hown hK hP 0 rfl rfl 0 (by decide) (hg _ k2_134) (fun _ h9 => h9) hv d_Ga_hasState_6 ?_
    refine lv_icmp_ge (tgt := 16) hx hb d_Ga_hasState_9 (by decide) (fun c9 => ?_) (fun c9 => ?_)
    · refine lv_iconst (v := 0) hx hb d_Ga_hasState_16 (by decide) ?_
      exact zPret (post := fun r => r = if 0 ≤ k ∧ k < v then 1 else 0) (v := 0) hx hb hr rfl hlocks hS ((if_neg (fun h => absurd c9 (Int32.not_le.mpr h.2))).symm) d_Ga_hasState_17
    · refine lv_iconst (v := 1) hx hb d_Ga_hasState_12 (by decide) ?_
      refine lv_goto (tgt := 17) hx hb d_Ga_hasState_13 (by decide) ?_
      exact zPret (post := fun r => r = if 0 ≤ k ∧ k < v then 1 else 0) (v := 1) hx hb hr rfl hlocks hS ((if_pos ⟨Int32.not_lt.mp c1, Int32.not_le.mp c9⟩).symm) d_Ga_hasState_17
theorem zHS {r k v : Int32} (h : r = if 0 ≤ k ∧ k < v then 1 else 0) (h0 : ¬ r = 0) : 0 ≤ k ∧ k < v := by
  by_cases hc : 0 ≤ k ∧ k < v
  · exact hc
  · rw [if_neg hc] at h; exact absurd h h0
theorem zIx {k : Int32} {n N : Nat} (h : 0 ≤ k ∧ k < nI n) (hn : n ≤ N) (hN : N < 2 ^ 31) : ∃ j : Nat, j < n ∧ k = nI j ∧ vp_in k N ∧ vp_in (k + 1) (N + 1) ∧ vp_in k (N + 1) := by
  obtain ⟨j, hj, rfl⟩ := nI_of (Int32.not_lt.mpr h.1)
  have hlt : j < n := (nI_ltI hj (by omega)).mp h.2
  refine ⟨j, hlt, rfl, vp_in_nI (by omega) hN, ?_, ?_⟩
  · rw [nI_1]; exact (vp_in_iff.mpr (by rw [nI_toInt (by omega)]; omega))
  · exact (vp_in_iff.mpr (by rw [nI_toInt (by omega)]; omega))
set_option maxHeartbeats 4000000 in
set_option maxRecDepth 100000 in
theorem c_Ga_commandAt (l : Launch) (D : va_G) (tA : Nat → ClassId) (sz : Nat) (h0 fa : Nat) (fs : List Value) (cn : Nat) (k i : Int32) (ff : Nat → Int32) (hcn : cn ≤ 512) (hv : fs[0]? = some (.int (nI cn))) (hf : fs[4]? = some (.ref fa)) : zMp l ({ cls := "ChanceArena$Game", name := "commandAt", desc := "(II)I" } : Jvm.MethodName) (zW (Jvm.Cond.code ({ cls := "ChanceArena$Game", name := "commandAt", desc := "(II)I" } : Jvm.MethodName) prog_4_method_4_code (3 : Nat) (Option.some Jvm.ClassFile.FieldType.int))) { frames := 1, cells := 0, slots := 0, locals := 22 } [.ref h0, .int k, .int i] D tA [(h0, .inr (6, fs)), (fa, .inl (tA 0, 513, .inl ff))] sz (fun r => r = if (0 ≤ k ∧ k < nI cn) ∧ 0 ≤ i ∧ i < ff (k + 1).toNatClampNeg - ff k.toNatClampNeg then ff k.toNatClampNeg + i else -1) := by
  refine zOpen (Wm := []) (fun A => va_Qi (fun r (_ : Unit) => (fun r => r = if (0 ≤ k ∧ k < nI cn) ∧ 0 ≤ i ∧ i < ff (k + 1).toNatClampNeg - ff k.toNatClampNeg then ff k.toNatClampNeg + i else -1) r) (fun _ _ => True) A) (lv := [(0, .ref h0), (1, .int k), (2, .int i)]) (by decide) rfl (Nat.le_of_ble_eq_true rfl) rfl ?_
  intro p e s m below meth c A ls hx hb hr hml hh hg hown hlocks hnm hK hA hP hD0 hAw hS hl
  refine lv_aload_n hx hb d_Ga_commandAt_0 rfl (lv_at hl 0 rfl) ?_
  refine lv_iload_n hx hb d_Ga_commandAt_1 rfl (lv_at hl 1 rfl) ?_
  refine zCallp hP hS hA (va_runV (As := [.int k]) (rest := []) ⟨hx, hb, hml, hown, hg⟩ (c_Ga_hasState l D tA _ h0 fs (nI cn) k hv) (zV 1 hg k5_165 k5_150 k5_151 k1_7 k5_152 rfl rfl (by decide +kernel) ⟨(Nat.le_of_ble_eq_true rfl), (Nat.le_of_ble_eq_true rfl)⟩) (zPreV hh hK hP hD0 [0] (by decide) rfl (ci := 6) rfl 0 rfl) rfl rfl hl.1 rfl (lv_room (Nat.le_of_ble_eq_true rfl)) d_Ga_commandAt_2 ⟨(Nat.le_of_ble_eq_true rfl), (Nat.le_of_ble_eq_true rfl)⟩) (fun r2 H locs er2 hP hS => ?_)
  refine lv_if_eq (tgt := 31) hx hb d_Ga_commandAt_5 (by decide) (fun c5 => ?_) (fun c5 => ?_)
  · refine lv_iconst (v := (-1)) hx hb d_Ga_commandAt_31 (by decide) ?_
    exact zPret (post := fun r => r = if (0 ≤ k ∧ k < nI cn) ∧ 0 ≤ i ∧ i < ff (k + 1).toNatClampNeg - ff k.toNatClampNeg then ff k.toNatClampNeg + i else -1) (v := (-1)) hx hb hr rfl hlocks hS ((if_neg (fun h => absurd (er2.trans (if_pos h.1)) (by rw [c5]; decide))).symm) d_Ga_commandAt_32
  · refine lv_iload_n hx hb d_Ga_commandAt_8 rfl (lv_at hl 2 rfl) ?_
    refine lv_if_lt (tgt := 31) hx hb d_Ga_commandAt_9 (by decide) (fun c9 => ?_) (fun c9 => ?_)
    · refine lv_iconst (v := (-1)) hx hb d_Ga_commandAt_31 (by decide) ?_
      exact zPret (post := fun r => r = if (0 ≤ k ∧ k < nI cn) ∧ 0 ≤ i ∧ i < ff (k + 1).toNatClampNeg - ff k.toNatClampNeg then ff k.toNatClampNeg + i else -1) (v := (-1)) hx hb hr rfl hlocks hS ((if_neg (fun h => absurd c9 (Int32.not_lt.mpr h.2.1))).symm) d_Ga_commandAt_32
    · refine lv_iload_n hx hb d_Ga_commandAt_12 rfl (lv_at hl 2 rfl) ?_
      refine lv_aload_n hx hb d_Ga_commandAt_13 rfl (lv_at hl 0 rfl) ?_
      refine va_get (D := D) (ci := 6) (v := .ref fa) (C := R_Ga) (T := T_Ga) (N := 19) hx hb hg i_Ga hown hK hP 0 rfl rfl 4 (by decide) (hg _ k2_149) (fun _ h9 => h9) hf d_Ga_commandAt_14 ?_
      refine lv_iload_n hx hb d_Ga_commandAt_17 rfl (lv_at hl 1 rfl) ?_
      refine lv_iconst (v := 1) hx hb d_Ga_commandAt_18 (by decide) ?_
      refine lv_iadd hx hb d_Ga_commandAt_19 ?_
      refine va_iald hx hb hK hP 1 0 rfl rfl ((zIx (zHS er2 c5) hcn (by decide)).choose_spec.2.2.2.1) d_Ga_commandAt_20 ?_
      refine lv_aload_n hx hb d_Ga_commandAt_21 rfl (lv_at hl 0 rfl) ?_
      refine va_get (D := D) (ci := 6) (v := .ref fa) (C := R_Ga) (T := T_Ga) (N := 19) hx hb hg i_Ga hown hK hP 0 rfl rfl 4 (by decide) (hg _ k2_149) (fun _ h9 => h9) hf d_Ga_commandAt_22 ?_
      refine lv_iload_n hx hb d_Ga_commandAt_25 rfl (lv_at hl 1 rfl) ?_
      refine va_iald hx hb hK hP 1 0 rfl rfl ((zIx (zHS er2 c5) hcn (by decide)).choose_spec.2.2.2.2) d_Ga_commandAt_26 ?_
      refine lv_isub hx hb d_Ga_commandAt_27 ?_
      refine lv_icmp_lt (tgt := 33) hx hb d_Ga_commandAt_28 (by decide) (fun c28 => ?_) (fun c28 => ?_)
      · refine lv_aload_n hx hb d_Ga_commandAt_33 rfl (lv_at hl 0 rfl) ?_
        refine va_get (D := D) (ci := 6) (v := .ref fa) (C := R_Ga) (T := T_Ga) (N := 19) hx hb hg i_Ga hown hK hP 0 rfl rfl 4 (by decide) (hg _ k2_149) (fun _ h9 => h9) hf d_Ga_commandAt_34 ?_
        refine lv_iload_n hx hb d_Ga_commandAt_37 rfl (lv_at hl 1 rfl) ?_
        refine va_iald hx hb hK hP 1 0 rfl rfl ((zIx (zHS er2 c5) hcn (by decide)).choose_spec.2.2.2.2) d_Ga_commandAt_38 ?_
        refine lv_iload_n hx hb d_Ga_commandAt_39 rfl (lv_at hl 2 rfl) ?_
        refine lv_iadd hx hb d_Ga_commandAt_40 ?_
        exact zPret (post := fun r => r = if (0 ≤ k ∧ k < nI cn) ∧ 0 ≤ i ∧ i < ff (k + 1).toNatClampNeg - ff k.toNatClampNeg then ff k.toNatClampNeg + i else -1) (v := ((ff (k).toNatClampNeg) + i)) hx hb hr rfl hlocks hS ((if_pos ⟨zHS er2 c5, Int32.not_lt.mp c9, c28⟩).symm) d_Ga_commandAt_41
      · refine lv_iconst (v := (-1)) hx hb d_Ga_commandAt_31 (by decide) ?_
        exact zPret (post := fun r => r = if (0 ≤ k ∧ k < nI cn) ∧ 0 ≤ i ∧ i < ff (k + 1).toNatClampNeg - ff k.toNatClampNeg then ff k.toNatClampNeg + i else -1) (v := (-1)) hx hb hr rfl hlocks hS ((if_neg (fun h => absurd h.2.2 c28)).symm) d_Ga_commandAt_32
set_option maxHeartbeats 4000000 in
set_option maxRecDepth 100000 in
theorem c_CA_kind (l : Launch) (D : va_G) (tA : Nat → ClassId) (sz : Nat) (h0 g0 fa : Nat) (fs gs : List Value) (cn : Nat) (k : Int32) (ff : Nat → Int32) (hcn : cn ≤ 512) (hgm : fs[9]? = some (.ref g0)) (hv : gs[0]? = some (.int (nI cn))) (hf : gs[2]? = some (.ref fa)) : zMp l ({ cls := "ChanceArena", name := "kind", desc := "(I)I" } : Jvm.MethodName) (zW (Jvm.Cond.code ({ cls := "ChanceArena", name := "kind", desc := "(I)I" } : Jvm.MethodName) prog_1_method_14_code (2 : Nat) (Option.some Jvm.ClassFile.FieldType.int))) { frames := 1, cells := 0, slots := 0, locals := 22 } [.ref h0, .int k] D tA [(h0, .inr (0, fs)), (g0, .inr (6, gs)), (fa, .inl (tA 0, 512, .inl ff))] sz (fun r => r = if 0 ≤ k ∧ k < nI cn then ff k.toNatClampNeg else -1) := by
  refine zOpen (Wm := []) (fun A => va_Qi (fun r (_ : Unit) => (fun r => r = if 0 ≤ k ∧ k < nI cn then ff k.toNatClampNeg else -1) r) (fun _ _ => True) A) (lv := [(0, .ref h0), (1, .int k)]) (by decide) rfl (Nat.le_of_ble_eq_true rfl) rfl ?_
  intro p e s m below meth c A ls hx hb hr hml hh hg hown hlocks hnm hK hA hP hD0 hAw hS hl
  refine lv_aload_n hx hb d_CA_kind_0 rfl (lv_at hl 0 rfl) ?_
  refine va_get (D := D) (ci := 0) (v := .ref g0) (C := R_CA) (T := T_CA) (N := 19) hx hb hg i_CA hown hK hP 0 rfl rfl 9 (by decide) (hg _ k3_196) (fun _ h9 => h9) hgm d_CA_kind_1 ?_
  refine lv_iload_n hx hb d_CA_kind_4 rfl (lv_at hl 1 rfl) ?_
  refine zCallp hP hS hA (va_runV (As := [.int k]) (rest := []) ⟨hx, hb, hml, hown, hg⟩ (c_Ga_hasState l D tA _ g0 gs (nI cn) k hv) (zV 1 hg k5_149 k5_150 k5_151 k1_7 k5_152 rfl rfl (by decide +kernel) ⟨(Nat.le_of_ble_eq_true rfl), (Nat.le_of_ble_eq_true rfl)⟩) (zPreV hh hK hP hD0 [1] (by decide) rfl (ci := 6) rfl 0 rfl) rfl rfl hl.1 rfl (lv_room (Nat.le_of_ble_eq_true rfl)) d_CA_kind_5 ⟨(Nat.le_of_ble_eq_true rfl), (Nat.le_of_ble_eq_true rfl)⟩) (fun r5 H locs er5 hP hS => ?_)
  refine lv_if_eq (tgt := 23) hx hb d_CA_kind_8 (by decide) (fun c8 => ?_) (fun c8 => ?_)
  · refine lv_iconst (v := (-1)) hx hb d_CA_kind_23 (by decide) ?_
    exact zPret (post := fun r => r = if 0 ≤ k ∧ k < nI cn then ff k.toNatClampNeg else -1) (v := (-1)) hx hb hr rfl hlocks hS ((if_neg (fun h => absurd (er5.trans (if_pos h)) (by rw [c8]; decide))).symm) d_CA_kind_24
  · refine lv_aload_n hx hb d_CA_kind_11 rfl (lv_at hl 0 rfl) ?_
    refine va_get (D := D) (ci := 0) (v := .ref g0) (C := R_CA) (T := T_CA) (N := 19) hx hb hg i_CA hown hK hP 0 rfl rfl 9 (by decide) (hg _ k3_196) (fun _ h9 => h9) hgm d_CA_kind_12 ?_
    refine va_get (D := D) (ci := 6) (v := .ref fa) (C := R_Ga) (T := T_Ga) (N := 19) hx hb hg i_Ga hown hK hP 1 rfl rfl 2 (by decide) (hg _ k2_145) (fun _ h9 => h9) hf d_CA_kind_15 ?_
    refine lv_iload_n hx hb d_CA_kind_18 rfl (lv_at hl 1 rfl) ?_
    refine va_iald hx hb hK hP 2 0 rfl rfl ((zIx (zHS er5 c8) hcn (by decide)).choose_spec.2.2.1) d_CA_kind_19 ?_
    refine lv_goto (tgt := 24) hx hb d_CA_kind_20 (by decide) ?_
    exact zPret (post := fun r => r = if 0 ≤ k ∧ k < nI cn then ff k.toNatClampNeg else -1) (v := (ff (k).toNatClampNeg)) hx hb hr rfl hlocks hS ((if_pos (zHS er5 c8)).symm) d_CA_kind_24
set_option maxHeartbeats 4000000 in
set_option maxRecDepth 100000 in
theorem c_CA_commands (l : Launch) (D : va_G) (tA : Nat → ClassId) (sz : Nat) (h0 g0 fa : Nat) (fs gs : List Value) (cn : Nat) (k : Int32) (ff : Nat → Int32) (hcn : cn ≤ 512) (hgm : fs[9]? = some (.ref g0)) (hv : gs[0]? = some (.int (nI cn))) (hf : gs[4]? = some (.ref fa)) : zMp l ({ cls := "ChanceArena", name := "commands", desc := "(I)I" } : Jvm.MethodName) (zW (Jvm.Cond.code ({ cls := "ChanceArena", name := "commands", desc := "(I)I" } : Jvm.MethodName) prog_1_method_15_code (2 : Nat) (Option.some Jvm.ClassFile.FieldType.int))) { frames := 1, cells := 0, slots := 0, locals := 22 } [.ref h0, .int k] D tA [(h0, .inr (0, fs)), (g0, .inr (6, gs)), (fa, .inl (tA 0, 513, .inl ff))] sz (fun r => r = if 0 ≤ k ∧ k < nI cn then ff (k + 1).toNatClampNeg - ff k.toNatClampNeg else -1) := by
  refine zOpen (Wm := []) (fun A => va_Qi (fun r (_ : Unit) => (fun r => r = if 0 ≤ k ∧ k < nI cn then ff (k + 1).toNatClampNeg - ff k.toNatClampNeg else -1) r) (fun _ _ => True) A) (lv := [(0, .ref h0), (1, .int k)]) (by decide) rfl (Nat.le_of_ble_eq_true rfl) rfl ?_
  intro p e s m below meth c A ls hx hb hr hml hh hg hown hlocks hnm hK hA hP hD0 hAw hS hl
  refine lv_aload_n hx hb d_CA_commands_0 rfl (lv_at hl 0 rfl) ?_
  refine va_get (D := D) (ci := 0) (v := .ref g0) (C := R_CA) (T := T_CA) (N := 19) hx hb hg i_CA hown hK hP 0 rfl rfl 9 (by decide) (hg _ k3_196) (fun _ h9 => h9) hgm d_CA_commands_1 ?_
  refine lv_iload_n hx hb d_CA_commands_4 rfl (lv_at hl 1 rfl) ?_
  refine zCallp hP hS hA (va_runV (As := [.int k]) (rest := []) ⟨hx, hb, hml, hown, hg⟩ (c_Ga_hasState l D tA _ g0 gs (nI cn) k hv) (zV 1 hg k5_149 k5_150 k5_151 k1_7 k5_152 rfl rfl (by decide +kernel) ⟨(Nat.le_of_ble_eq_true rfl), (Nat.le_of_ble_eq_true rfl)⟩) (zPreV hh hK hP hD0 [1] (by decide) rfl (ci := 6) rfl 0 rfl) rfl rfl hl.1 rfl (lv_room (Nat.le_of_ble_eq_true rfl)) d_CA_commands_5 ⟨(Nat.le_of_ble_eq_true rfl), (Nat.le_of_ble_eq_true rfl)⟩) (fun r5 H locs er5 hP hS => ?_)
  refine lv_if_eq (tgt := 35) hx hb d_CA_commands_8 (by decide) (fun c8 => ?_) (fun c8 => ?_)
  · refine lv_iconst (v := (-1)) hx hb d_CA_commands_35 (by decide) ?_
    exact zPret (post := fun r => r = if 0 ≤ k ∧ k < nI cn then ff (k + 1).toNatClampNeg - ff k.toNatClampNeg else -1) (v := (-1)) hx hb hr rfl hlocks hS ((if_neg (fun h => absurd (er5.trans (if_pos h)) (by rw [c8]; decide))).symm) d_CA_commands_36
  · refine lv_aload_n hx hb d_CA_commands_11 rfl (lv_at hl 0 rfl) ?_
    refine va_get (D := D) (ci := 0) (v := .ref g0) (C := R_CA) (T := T_CA) (N := 19) hx hb hg i_CA hown hK hP 0 rfl rfl 9 (by decide) (hg _ k3_196) (fun _ h9 => h9) hgm d_CA_commands_12 ?_
    refine va_get (D := D) (ci := 6) (v := .ref fa) (C := R_Ga) (T := T_Ga) (N := 19) hx hb hg i_Ga hown hK hP 1 rfl rfl 4 (by decide) (hg _ k2_152) (fun _ h9 => h9) hf d_CA_commands_15 ?_
    refine lv_iload_n hx hb d_CA_commands_18 rfl (lv_at hl 1 rfl) ?_
    refine lv_iconst (v := 1) hx hb d_CA_commands_19 (by decide) ?_
    refine lv_iadd hx hb d_CA_commands_20 ?_
    refine va_iald hx hb hK hP 2 0 rfl rfl ((zIx (zHS er5 c8) hcn (by decide)).choose_spec.2.2.2.1) d_CA_commands_21 ?_
    refine lv_aload_n hx hb d_CA_commands_22 rfl (lv_at hl 0 rfl) ?_
    refine va_get (D := D) (ci := 0) (v := .ref g0) (C := R_CA) (T := T_CA) (N := 19) hx hb hg i_CA hown hK hP 0 rfl rfl 9 (by decide) (hg _ k3_196) (fun _ h9 => h9) hgm d_CA_commands_23 ?_
    refine va_get (D := D) (ci := 6) (v := .ref fa) (C := R_Ga) (T := T_Ga) (N := 19) hx hb hg i_Ga hown hK hP 1 rfl rfl 4 (by decide) (hg _ k2_152) (fun _ h9 => h9) hf d_CA_commands_26 ?_
    refine lv_iload_n hx hb d_CA_commands_29 rfl (lv_at hl 1 rfl) ?_
    refine va_iald hx hb hK hP 2 0 rfl rfl ((zIx (zHS er5 c8) hcn (by decide)).choose_spec.2.2.2.2) d_CA_commands_30 ?_
    refine lv_isub hx hb d_CA_commands_31 ?_
    refine lv_goto (tgt := 36) hx hb d_CA_commands_32 (by decide) ?_
    exact zPret (post := fun r => r = if 0 ≤ k ∧ k < nI cn then ff (k + 1).toNatClampNeg - ff k.toNatClampNeg else -1) (v := ((ff ((k + 1)).toNatClampNeg) - (ff (k).toNatClampNeg))) hx hb hr rfl hlocks hS ((if_pos (zHS er5 c8)).symm) d_CA_commands_36
