theorem k6_20 : (Jvm.Cond.castable "java/lang/IllegalArgumentException" "java/lang/IllegalArgumentException") ∈ lw_R := zR (zk_6 _ (List.mem_of_getElem? (i := 20) (by decide +kernel))) rfl
theorem k7_186 : (Jvm.Cond.codeWith ({ cls := "ChanceArenaLaw", name := "end", desc := "(LChanceArena;I[J)I" } : Jvm.MethodName) method_3_code (4 : Nat) (Option.some Jvm.ClassFile.FieldType.int) [((0 : Nat), (9 : Nat), (12 : Nat), (13 : Nat))]) ∈ lw_R := zR (zk_7 _ (List.mem_of_getElem? (i := 186) (by decide +kernel))) rfl
theorem k7_187 : (Jvm.Cond.classLink "ChanceArenaLaw" (13 : Nat) "java/lang/IllegalArgumentException") ∈ lw_R := zR (zk_7 _ (List.mem_of_getElem? (i := 187) (by decide +kernel))) rfl
theorem k7_188 : (Jvm.Cond.methodLink "ChanceArenaLaw" (7 : Nat) ({ cls := "ChanceArena", name := "end", desc := "(I)I" } : Jvm.MethodName)) ∈ lw_R := zR (zk_7 _ (List.mem_of_getElem? (i := 188) (by decide +kernel))) rfl
theorem k7_189 : (Jvm.Cond.instanceMethod ({ cls := "ChanceArena", name := "end", desc := "(I)I" } : Jvm.MethodName)) ∈ lw_R := zR (zk_7 _ (List.mem_of_getElem? (i := 189) (by decide +kernel))) rfl
theorem k7_190 : (Jvm.Cond.selects "ChanceArena" ({ cls := "ChanceArena", name := "end", desc := "(I)I" } : Jvm.MethodName) ({ cls := "ChanceArena", name := "end", desc := "(I)I" } : Jvm.MethodName)) ∈ lw_R := zR (zk_7 _ (List.mem_of_getElem? (i := 190) (by decide +kernel))) rfl
theorem k7_205 : (Jvm.Cond.codeWith ({ cls := "ChanceArenaLaw", name := "explore", desc := "(LChanceArena;[J)I" } : Jvm.MethodName) method_4_code (3 : Nat) (Option.some Jvm.ClassFile.FieldType.int) [((0 : Nat), (8 : Nat), (11 : Nat), (19 : Nat))]) ∈ lw_R := zR (zk_7 _ (List.mem_of_getElem? (i := 205) (by decide +kernel))) rfl
theorem k7_206 : (Jvm.Cond.classLink "ChanceArenaLaw" (19 : Nat) "java/lang/IllegalStateException") ∈ lw_R := zR (zk_7 _ (List.mem_of_getElem? (i := 206) (by decide +kernel))) rfl
theorem k7_207 : (Jvm.Cond.methodLink "ChanceArenaLaw" (15 : Nat) ({ cls := "ChanceArena", name := "explore", desc := "()I" } : Jvm.MethodName)) ∈ lw_R := zR (zk_7 _ (List.mem_of_getElem? (i := 207) (by decide +kernel))) rfl
theorem k7_208 : (Jvm.Cond.instanceMethod ({ cls := "ChanceArena", name := "explore", desc := "()I" } : Jvm.MethodName)) ∈ lw_R := zR (zk_7 _ (List.mem_of_getElem? (i := 208) (by decide +kernel))) rfl
theorem k7_209 : (Jvm.Cond.selects "ChanceArena" ({ cls := "ChanceArena", name := "explore", desc := "()I" } : Jvm.MethodName) ({ cls := "ChanceArena", name := "explore", desc := "()I" } : Jvm.MethodName)) ∈ lw_R := zR (zk_7 _ (List.mem_of_getElem? (i := 209) (by decide +kernel))) rfl
theorem k7_213 : (Jvm.Cond.castable "java/lang/IllegalStateException" "java/lang/IllegalStateException") ∈ lw_R := zR (zk_7 _ (List.mem_of_getElem? (i := 213) (by decide +kernel))) rfl
theorem k8_41 : (Jvm.Cond.codeWith ({ cls := "ChanceArenaLaw", name := "variable", desc := "(LChanceArena;II[J)I" } : Jvm.MethodName) method_5_code (5 : Nat) (Option.some Jvm.ClassFile.FieldType.int) [((0 : Nat), (10 : Nat), (13 : Nat), (25 : Nat))]) ∈ lw_R := zR (zk_8 _ (List.mem_of_getElem? (i := 41) (by decide +kernel))) rfl
theorem k8_42 : (Jvm.Cond.classLink "ChanceArenaLaw" (25 : Nat) "java/lang/IndexOutOfBoundsException") ∈ lw_R := zR (zk_8 _ (List.mem_of_getElem? (i := 42) (by decide +kernel))) rfl
theorem k8_43 : (Jvm.Cond.methodLink "ChanceArenaLaw" (21 : Nat) ({ cls := "ChanceArena", name := "variable", desc := "(II)I" } : Jvm.MethodName)) ∈ lw_R := zR (zk_8 _ (List.mem_of_getElem? (i := 43) (by decide +kernel))) rfl
theorem k8_44 : (Jvm.Cond.instanceMethod ({ cls := "ChanceArena", name := "variable", desc := "(II)I" } : Jvm.MethodName)) ∈ lw_R := zR (zk_8 _ (List.mem_of_getElem? (i := 44) (by decide +kernel))) rfl
theorem k8_45 : (Jvm.Cond.selects "ChanceArena" ({ cls := "ChanceArena", name := "variable", desc := "(II)I" } : Jvm.MethodName) ({ cls := "ChanceArena", name := "variable", desc := "(II)I" } : Jvm.MethodName)) ∈ lw_R := zR (zk_8 _ (List.mem_of_getElem? (i := 45) (by decide +kernel))) rfl
theorem k8_49 : (Jvm.Cond.castable "java/lang/IndexOutOfBoundsException" "java/lang/IndexOutOfBoundsException") ∈ lw_R := zR (zk_8 _ (List.mem_of_getElem? (i := 49) (by decide +kernel))) rfl
theorem k8_64 : (Jvm.Cond.codeWith ({ cls := "ChanceArenaLaw", name := "solve", desc := "(LChanceArena;[J)I" } : Jvm.MethodName) method_6_code (3 : Nat) (Option.some Jvm.ClassFile.FieldType.int) [((0 : Nat), (8 : Nat), (11 : Nat), (19 : Nat))]) ∈ lw_R := zR (zk_8 _ (List.mem_of_getElem? (i := 64) (by decide +kernel))) rfl
theorem k8_65 : (Jvm.Cond.methodLink "ChanceArenaLaw" (27 : Nat) ({ cls := "ChanceArena", name := "solve", desc := "()I" } : Jvm.MethodName)) ∈ lw_R := zR (zk_8 _ (List.mem_of_getElem? (i := 65) (by decide +kernel))) rfl
theorem k8_66 : (Jvm.Cond.instanceMethod ({ cls := "ChanceArena", name := "solve", desc := "()I" } : Jvm.MethodName)) ∈ lw_R := zR (zk_8 _ (List.mem_of_getElem? (i := 66) (by decide +kernel))) rfl
theorem k8_67 : (Jvm.Cond.selects "ChanceArena" ({ cls := "ChanceArena", name := "solve", desc := "()I" } : Jvm.MethodName) ({ cls := "ChanceArena", name := "solve", desc := "()I" } : Jvm.MethodName)) ∈ lw_R := zR (zk_8 _ (List.mem_of_getElem? (i := 67) (by decide +kernel))) rfl
theorem k8_214 : (Jvm.Cond.codeWith ({ cls := "ChanceArenaLaw", name := "choose", desc := "(LChanceArena;II)I" } : Jvm.MethodName) method_8_code (4 : Nat) (Option.some Jvm.ClassFile.FieldType.int) [((0 : Nat), (6 : Nat), (9 : Nat), (25 : Nat))]) ∈ lw_R := zR (zk_8 _ (List.mem_of_getElem? (i := 214) (by decide +kernel))) rfl
theorem k8_215 : (Jvm.Cond.methodLink "ChanceArenaLaw" (33 : Nat) ({ cls := "ChanceArena", name := "choose", desc := "(II)V" } : Jvm.MethodName)) ∈ lw_R := zR (zk_8 _ (List.mem_of_getElem? (i := 215) (by decide +kernel))) rfl
theorem k8_216 : (Jvm.Cond.instanceMethod ({ cls := "ChanceArena", name := "choose", desc := "(II)V" } : Jvm.MethodName)) ∈ lw_R := zR (zk_8 _ (List.mem_of_getElem? (i := 216) (by decide +kernel))) rfl
theorem k8_217 : (Jvm.Cond.selects "ChanceArena" ({ cls := "ChanceArena", name := "choose", desc := "(II)V" } : Jvm.MethodName) ({ cls := "ChanceArena", name := "choose", desc := "(II)V" } : Jvm.MethodName)) ∈ lw_R := zR (zk_8 _ (List.mem_of_getElem? (i := 217) (by decide +kernel))) rfl
theorem k8_221 : (Jvm.Cond.codeWith ({ cls := "ChanceArenaLaw", name := "adopt", desc := "(LChanceArena;)I" } : Jvm.MethodName) method_9_code (2 : Nat) (Option.some Jvm.ClassFile.FieldType.int) [((0 : Nat), (4 : Nat), (7 : Nat), (19 : Nat))]) ∈ lw_R := zR (zk_8 _ (List.mem_of_getElem? (i := 221) (by decide +kernel))) rfl
theorem k8_222 : (Jvm.Cond.methodLink "ChanceArenaLaw" (37 : Nat) ({ cls := "ChanceArena", name := "adopt", desc := "()V" } : Jvm.MethodName)) ∈ lw_R := zR (zk_8 _ (List.mem_of_getElem? (i := 222) (by decide +kernel))) rfl
theorem k8_223 : (Jvm.Cond.instanceMethod ({ cls := "ChanceArena", name := "adopt", desc := "()V" } : Jvm.MethodName)) ∈ lw_R := zR (zk_8 _ (List.mem_of_getElem? (i := 223) (by decide +kernel))) rfl
theorem k8_224 : (Jvm.Cond.selects "ChanceArena" ({ cls := "ChanceArena", name := "adopt", desc := "()V" } : Jvm.MethodName) ({ cls := "ChanceArena", name := "adopt", desc := "()V" } : Jvm.MethodName)) ∈ lw_R := zR (zk_8 _ (List.mem_of_getElem? (i := 224) (by decide +kernel))) rfl
theorem d_La_end_0 : decode method_3_code 0 = .ok (.aload_n 2, 1) := dc9_44 (by decide +kernel)
theorem d_La_end_1 : decode method_3_code 1 = .ok (.iconst 0, 1) := dc9_3 (by decide +kernel)
theorem d_La_end_2 : decode method_3_code 2 = .ok (.aload_n 0, 1) := dc9_42 (by decide +kernel)
theorem d_La_end_3 : decode method_3_code 3 = .ok (.iload_n 1, 1) := dc9_27 (by decide +kernel)
theorem d_La_end_4 : decode method_3_code 4 = .ok (.invokevirtual 7, 3) := dc9_182 (by decide +kernel)
theorem d_La_end_12 : decode method_3_code 12 = .ok (.astore_n 3, 1) := dc9_78 (by decide +kernel)
theorem d_La_end_13 : decode method_3_code 13 = .ok (.iconst 1, 1) := dc9_4 (by decide +kernel)
theorem d_La_end_14 : decode method_3_code 14 = .ok (.ireturn, 1) := dc9_172 (by decide +kernel)
theorem d_La_explore_0 : decode method_4_code 0 = .ok (.aload_n 1, 1) := dc9_43 (by decide +kernel)
theorem d_La_explore_1 : decode method_4_code 1 = .ok (.iconst 0, 1) := dc9_3 (by decide +kernel)
theorem d_La_explore_2 : decode method_4_code 2 = .ok (.aload_n 0, 1) := dc9_42 (by decide +kernel)
theorem d_La_explore_3 : decode method_4_code 3 = .ok (.invokevirtual 15, 3) := dc9_182 (by decide +kernel)
theorem d_La_explore_11 : decode method_4_code 11 = .ok (.astore_n 2, 1) := dc9_77 (by decide +kernel)
theorem d_La_explore_12 : decode method_4_code 12 = .ok (.iconst 1, 1) := dc9_4 (by decide +kernel)
theorem d_La_explore_13 : decode method_4_code 13 = .ok (.ireturn, 1) := dc9_172 (by decide +kernel)
theorem d_La_variable_0 : decode method_5_code 0 = .ok (.aload_n 3, 1) := dc9_45 (by decide +kernel)
theorem d_La_variable_1 : decode method_5_code 1 = .ok (.iconst 0, 1) := dc9_3 (by decide +kernel)
theorem d_La_variable_2 : decode method_5_code 2 = .ok (.aload_n 0, 1) := dc9_42 (by decide +kernel)
theorem d_La_variable_3 : decode method_5_code 3 = .ok (.iload_n 1, 1) := dc9_27 (by decide +kernel)
theorem d_La_variable_4 : decode method_5_code 4 = .ok (.iload_n 2, 1) := dc9_28 (by decide +kernel)
theorem d_La_variable_5 : decode method_5_code 5 = .ok (.invokevirtual 21, 3) := dc9_182 (by decide +kernel)
theorem d_La_variable_13 : decode method_5_code 13 = .ok (.astore 4, 2) := dc9_58 (by decide +kernel)
theorem d_La_variable_15 : decode method_5_code 15 = .ok (.iconst 1, 1) := dc9_4 (by decide +kernel)
theorem d_La_variable_16 : decode method_5_code 16 = .ok (.ireturn, 1) := dc9_172 (by decide +kernel)
theorem d_La_solve_0 : decode method_6_code 0 = .ok (.aload_n 1, 1) := dc9_43 (by decide +kernel)
theorem d_La_solve_1 : decode method_6_code 1 = .ok (.iconst 0, 1) := dc9_3 (by decide +kernel)
theorem d_La_solve_2 : decode method_6_code 2 = .ok (.aload_n 0, 1) := dc9_42 (by decide +kernel)
theorem d_La_solve_3 : decode method_6_code 3 = .ok (.invokevirtual 27, 3) := dc9_182 (by decide +kernel)
theorem d_La_solve_11 : decode method_6_code 11 = .ok (.astore_n 2, 1) := dc9_77 (by decide +kernel)
theorem d_La_solve_12 : decode method_6_code 12 = .ok (.iconst 1, 1) := dc9_4 (by decide +kernel)
theorem d_La_solve_13 : decode method_6_code 13 = .ok (.ireturn, 1) := dc9_172 (by decide +kernel)
theorem d_La_choose_0 : decode method_8_code 0 = .ok (.aload_n 0, 1) := dc9_42 (by decide +kernel)
theorem d_La_choose_1 : decode method_8_code 1 = .ok (.iload_n 1, 1) := dc9_27 (by decide +kernel)
theorem d_La_choose_2 : decode method_8_code 2 = .ok (.iload_n 2, 1) := dc9_28 (by decide +kernel)
theorem d_La_choose_3 : decode method_8_code 3 = .ok (.invokevirtual 33, 3) := dc9_182 (by decide +kernel)
theorem d_La_choose_9 : decode method_8_code 9 = .ok (.astore_n 3, 1) := dc9_78 (by decide +kernel)
theorem d_La_choose_10 : decode method_8_code 10 = .ok (.iconst 1, 1) := dc9_4 (by decide +kernel)
theorem d_La_choose_11 : decode method_8_code 11 = .ok (.ireturn, 1) := dc9_172 (by decide +kernel)
theorem d_La_adopt_0 : decode method_9_code 0 = .ok (.aload_n 0, 1) := dc9_42 (by decide +kernel)
theorem d_La_adopt_1 : decode method_9_code 1 = .ok (.invokevirtual 37, 3) := dc9_182 (by decide +kernel)
theorem d_La_adopt_7 : decode method_9_code 7 = .ok (.astore_n 1, 1) := dc9_76 (by decide +kernel)
theorem d_La_adopt_8 : decode method_9_code 8 = .ok (.iconst 1, 1) := dc9_4 (by decide +kernel)
theorem d_La_adopt_9 : decode method_9_code 9 = .ok (.ireturn, 1) := dc9_172 (by decide +kernel)
set_option maxHeartbeats 4000000 in
set_option maxRecDepth 100000 in
theorem h_end_0 (l : Launch) (htr : l.stackTraces = false) (D : va_G) (tA : Nat → ClassId) (sz lim : Nat) (h0 oa : Nat) (fs : List Value) (n : Int32) (ht0 : fs[1]? = some (.int 0)) : Met l ({ cls := "ChanceArenaLaw", name := "end", desc := "(LChanceArena;I[J)I" } : Jvm.MethodName) (zW (Jvm.Cond.codeWith ({ cls := "ChanceArenaLaw", name := "end", desc := "(LChanceArena;I[J)I" } : Jvm.MethodName) method_3_code (4 : Nat) (Option.some Jvm.ClassFile.FieldType.int) [((0 : Nat), (9 : Nat), (12 : Nat), (13 : Nat))])) { frames := 7, cells := 1, slots := 6, locals := 120 } (va_Pc [.ref h0, .int n, .ref oa] (zPreX D tA [(h0, .inr (0, fs))] sz lim)) (va_Qi (fun r (_ : Unit) => (fun r => r = 1) r) (fun _ _ => True) (va_A [] sz)) 1 6 (va_A [] sz) := by
  refine zOpenW (lv := [(0, .ref h0), (1, .int n), (2, .ref oa)]) (by decide) rfl (Nat.le_of_ble_eq_true rfl) rfl ?_
  intro p e s m below meth c A ls hx hb hr hml ht hh hg hown hlocks hK hA hP hD0 h2 hS hl
  refine lv_aload_n hx hb d_La_end_0 rfl (lv_at hl 2 rfl) ?_
  refine lv_iconst (v := 0) hx hb d_La_end_1 (by decide) ?_
  refine lv_aload_n hx hb d_La_end_2 rfl (lv_at hl 0 rfl) ?_
  refine lv_iload_n hx hb d_La_end_3 rfl (lv_at hl 1 rfl) ?_
  refine zCallX (cells := 0) (slots := 0) (As := [.int n]) (rest := [.int 0, .ref oa]) ⟨hx, hb, hml, hown, hg⟩ (c_CA_end_0 l htr D tA _ lim h0 fs n ht0) (zV 1 hg k7_188 k7_189 k7_190 k1_1 k7_191 rfl rfl (by decide +kernel) ⟨(Nat.le_of_ble_eq_true rfl), (Nat.le_of_ble_eq_true rfl)⟩) (zPreVX hh hK h2 hP hD0 [0] (by decide) rfl (ci := 0) rfl 0 rfl) rfl hl.1 (lv_room (Nat.le_of_ble_eq_true rfl)) d_La_end_4 ⟨(Nat.le_of_ble_eq_true rfl), (Nat.le_of_ble_eq_true rfl)⟩ hS (fun E9 a9 ce9 H locs hE9 hc9 hv9 hf9 hS T9 hT9 X9 => ?_)
  subst hE9
  refine xCatch1 hown ⟨0, 9, 12, 13⟩ [] (by rw [ht]; rfl) (by decide) (by decide) (hg _ k7_187) (hg _ k6_20) hc9 hv9 hf9 ?_ hT9 X9
  refine W.eq (g2 := F0 m 12 ls [.ref a9]) rfl ?_
  refine W.cs (cells' := 1) (slots' := 6) rfl rfl ?_
  refine lv_astore_n (lv' := [(3, .ref a9), (0, .ref h0), (1, .int n), (2, .ref oa)]) hx hb d_La_end_12 rfl hl (by decide) rfl (fun ls hl => ?_)
  refine lv_iconst (v := 1) hx hb d_La_end_13 (by decide) ?_
  exact zPret (post := fun r => r = 1) (v := 1) hx hb hr rfl hlocks hS (rfl) d_La_end_14
set_option maxHeartbeats 4000000 in
set_option maxRecDepth 100000 in
theorem h_explore_0 (l : Launch) (htr : l.stackTraces = false) (D : va_G) (tA : Nat → ClassId) (sz lim : Nat) (h0 oa : Nat) (fs : List Value) (ht0 : fs[6]? = some (.int 0)) : Met l ({ cls := "ChanceArenaLaw", name := "explore", desc := "(LChanceArena;[J)I" } : Jvm.MethodName) (zW (Jvm.Cond.codeWith ({ cls := "ChanceArenaLaw", name := "explore", desc := "(LChanceArena;[J)I" } : Jvm.MethodName) method_4_code (3 : Nat) (Option.some Jvm.ClassFile.FieldType.int) [((0 : Nat), (8 : Nat), (11 : Nat), (19 : Nat))])) { frames := 7, cells := 1, slots := 6, locals := 120 } (va_Pc [.ref h0, .ref oa] (zPreX D tA [(h0, .inr (0, fs))] sz lim)) (va_Qi (fun r (_ : Unit) => (fun r => r = 1) r) (fun _ _ => True) (va_A [] sz)) 1 6 (va_A [] sz) := by
  refine zOpenW (lv := [(0, .ref h0), (1, .ref oa)]) (by decide) rfl (Nat.le_of_ble_eq_true rfl) rfl ?_
  intro p e s m below meth c A ls hx hb hr hml ht hh hg hown hlocks hK hA hP hD0 h2 hS hl
  refine lv_aload_n hx hb d_La_explore_0 rfl (lv_at hl 1 rfl) ?_
  refine lv_iconst (v := 0) hx hb d_La_explore_1 (by decide) ?_
  refine lv_aload_n hx hb d_La_explore_2 rfl (lv_at hl 0 rfl) ?_
  refine zCallX (cells := 0) (slots := 0) (As := []) (rest := [.int 0, .ref oa]) ⟨hx, hb, hml, hown, hg⟩ (c_CA_explore_0 l htr D tA _ lim h0 fs ht0) (zV 0 hg k7_207 k7_208 k7_209 k1_1 k7_210 rfl rfl (by decide +kernel) ⟨(Nat.le_of_ble_eq_true rfl), (Nat.le_of_ble_eq_true rfl)⟩) (zPreVX hh hK h2 hP hD0 [0] (by decide) rfl (ci := 0) rfl 0 rfl) rfl hl.1 (lv_room (Nat.le_of_ble_eq_true rfl)) d_La_explore_3 ⟨(Nat.le_of_ble_eq_true rfl), (Nat.le_of_ble_eq_true rfl)⟩ hS (fun E9 a9 ce9 H locs hE9 hc9 hv9 hf9 hS T9 hT9 X9 => ?_)
  subst hE9
  refine xCatch1 hown ⟨0, 8, 11, 19⟩ [] (by rw [ht]; rfl) (by decide) (by decide) (hg _ k7_206) (hg _ k7_213) hc9 hv9 hf9 ?_ hT9 X9
  refine W.eq (g2 := F0 m 11 ls [.ref a9]) rfl ?_
  refine W.cs (cells' := 1) (slots' := 6) rfl rfl ?_
  refine lv_astore_n (lv' := [(2, .ref a9), (0, .ref h0), (1, .ref oa)]) hx hb d_La_explore_11 rfl hl (by decide) rfl (fun ls hl => ?_)
  refine lv_iconst (v := 1) hx hb d_La_explore_12 (by decide) ?_
  exact zPret (post := fun r => r = 1) (v := 1) hx hb hr rfl hlocks hS (rfl) d_La_explore_13
set_option maxHeartbeats 4000000 in
set_option maxRecDepth 100000 in
theorem h_variable_0 (l : Launch) (htr : l.stackTraces = false) (D : va_G) (tA : Nat → ClassId) (sz lim : Nat) (oa : Nat) (h0 g0 : Nat) (fs gs : List Value) (hgm : fs[9]? = some (.ref g0)) (hv : gs[0]? = some (.int (nI 0))) (k v : Int32) : Met l ({ cls := "ChanceArenaLaw", name := "variable", desc := "(LChanceArena;II[J)I" } : Jvm.MethodName) (zW (Jvm.Cond.codeWith ({ cls := "ChanceArenaLaw", name := "variable", desc := "(LChanceArena;II[J)I" } : Jvm.MethodName) method_5_code (5 : Nat) (Option.some Jvm.ClassFile.FieldType.int) [((0 : Nat), (10 : Nat), (13 : Nat), (25 : Nat))])) { frames := 7, cells := 1, slots := 6, locals := 120 } (va_Pc [.ref h0, .int k, .int v, .ref oa] (zPreX D tA [(h0, .inr (0, fs)), (g0, .inr (6, gs))] sz lim)) (va_Qi (fun r (_ : Unit) => (fun r => r = 1) r) (fun _ _ => True) (va_A [] sz)) 1 6 (va_A [] sz) := by
  refine zOpenW (lv := [(0, .ref h0), (1, .int k), (2, .int v), (3, .ref oa)]) (by decide) rfl (Nat.le_of_ble_eq_true rfl) rfl ?_
  intro p e s m below meth c A ls hx hb hr hml ht hh hg hown hlocks hK hA hP hD0 h2 hS hl
  refine lv_aload_n hx hb d_La_variable_0 rfl (lv_at hl 3 rfl) ?_
  refine lv_iconst (v := 0) hx hb d_La_variable_1 (by decide) ?_
  refine lv_aload_n hx hb d_La_variable_2 rfl (lv_at hl 0 rfl) ?_
  refine lv_iload_n hx hb d_La_variable_3 rfl (lv_at hl 1 rfl) ?_
  refine lv_iload_n hx hb d_La_variable_4 rfl (lv_at hl 2 rfl) ?_
  refine zCallX (cells := 0) (slots := 0) (As := [.int k, .int v]) (rest := [.int 0, .ref oa]) ⟨hx, hb, hml, hown, hg⟩ (c_CA_variable_0 l htr D tA _ lim h0 g0 fs gs hgm hv k v) (zV 2 hg k8_43 k8_44 k8_45 k1_1 k8_46 rfl rfl (by decide +kernel) ⟨(Nat.le_of_ble_eq_true rfl), (Nat.le_of_ble_eq_true rfl)⟩) (zPreVX hh hK h2 hP hD0 [0, 1] (by decide) rfl (ci := 0) rfl 0 rfl) rfl hl.1 (lv_room (Nat.le_of_ble_eq_true rfl)) d_La_variable_5 ⟨(Nat.le_of_ble_eq_true rfl), (Nat.le_of_ble_eq_true rfl)⟩ hS (fun E9 a9 ce9 H locs hE9 hc9 hv9 hf9 hS T9 hT9 X9 => ?_)
  subst hE9
  refine xCatch1 hown ⟨0, 10, 13, 25⟩ [] (by rw [ht]; rfl) (by decide) (by decide) (hg _ k8_42) (hg _ k8_49) hc9 hv9 hf9 ?_ hT9 X9
  refine W.eq (g2 := F0 m 13 ls [.ref a9]) rfl ?_
  refine W.cs (cells' := 1) (slots' := 6) rfl rfl ?_
  refine lv_astore (lv' := [(4, .ref a9), (0, .ref h0), (1, .int k), (2, .int v), (3, .ref oa)]) hx hb d_La_variable_13 hl (by decide) rfl (fun ls hl => ?_)
  refine lv_iconst (v := 1) hx hb d_La_variable_15 (by decide) ?_
  exact zPret (post := fun r => r = 1) (v := 1) hx hb hr rfl hlocks hS (rfl) d_La_variable_16
set_option maxHeartbeats 4000000 in
set_option maxRecDepth 100000 in
theorem h_solve_0 (l : Launch) (htr : l.stackTraces = false) (D : va_G) (tA : Nat → ClassId) (sz lim : Nat) (oa : Nat) (h0 g0 : Nat) (fs gs : List Value) (hgm : fs[9]? = some (.ref g0)) (hv : gs[0]? = some (.int 0)) : Met l ({ cls := "ChanceArenaLaw", name := "solve", desc := "(LChanceArena;[J)I" } : Jvm.MethodName) (zW (Jvm.Cond.codeWith ({ cls := "ChanceArenaLaw", name := "solve", desc := "(LChanceArena;[J)I" } : Jvm.MethodName) method_6_code (3 : Nat) (Option.some Jvm.ClassFile.FieldType.int) [((0 : Nat), (8 : Nat), (11 : Nat), (19 : Nat))])) { frames := 7, cells := 1, slots := 6, locals := 120 } (va_Pc [.ref h0, .ref oa] (zPreX D tA [(h0, .inr (0, fs)), (g0, .inr (6, gs))] sz lim)) (va_Qi (fun r (_ : Unit) => (fun r => r = 1) r) (fun _ _ => True) (va_A [] sz)) 1 6 (va_A [] sz) := by
  refine zOpenW (lv := [(0, .ref h0), (1, .ref oa)]) (by decide) rfl (Nat.le_of_ble_eq_true rfl) rfl ?_
  intro p e s m below meth c A ls hx hb hr hml ht hh hg hown hlocks hK hA hP hD0 h2 hS hl
  refine lv_aload_n hx hb d_La_solve_0 rfl (lv_at hl 1 rfl) ?_
  refine lv_iconst (v := 0) hx hb d_La_solve_1 (by decide) ?_
  refine lv_aload_n hx hb d_La_solve_2 rfl (lv_at hl 0 rfl) ?_
  refine zCallX (cells := 0) (slots := 0) (As := []) (rest := [.int 0, .ref oa]) ⟨hx, hb, hml, hown, hg⟩ (c_CA_solve_0 l htr D tA _ lim h0 g0 fs gs hgm hv) (zV 0 hg k8_65 k8_66 k8_67 k1_1 k8_68 rfl rfl (by decide +kernel) ⟨(Nat.le_of_ble_eq_true rfl), (Nat.le_of_ble_eq_true rfl)⟩) (zPreVX hh hK h2 hP hD0 [0, 1] (by decide) rfl (ci := 0) rfl 0 rfl) rfl hl.1 (lv_room (Nat.le_of_ble_eq_true rfl)) d_La_solve_3 ⟨(Nat.le_of_ble_eq_true rfl), (Nat.le_of_ble_eq_true rfl)⟩ hS (fun E9 a9 ce9 H locs hE9 hc9 hv9 hf9 hS T9 hT9 X9 => ?_)
  subst hE9
  refine xCatch1 hown ⟨0, 8, 11, 19⟩ [] (by rw [ht]; rfl) (by decide) (by decide) (hg _ k7_206) (hg _ k7_213) hc9 hv9 hf9 ?_ hT9 X9
  refine W.eq (g2 := F0 m 11 ls [.ref a9]) rfl ?_
  refine W.cs (cells' := 1) (slots' := 6) rfl rfl ?_
  refine lv_astore_n (lv' := [(2, .ref a9), (0, .ref h0), (1, .ref oa)]) hx hb d_La_solve_11 rfl hl (by decide) rfl (fun ls hl => ?_)
  refine lv_iconst (v := 1) hx hb d_La_solve_12 (by decide) ?_
  exact zPret (post := fun r => r = 1) (v := 1) hx hb hr rfl hlocks hS (rfl) d_La_solve_13
set_option maxHeartbeats 4000000 in
set_option maxRecDepth 100000 in
theorem h_choose_0 (l : Launch) (htr : l.stackTraces = false) (D : va_G) (tA : Nat → ClassId) (sz lim : Nat) (h0 g0 : Nat) (fs gs : List Value) (hgm : fs[9]? = some (.ref g0)) (hv : gs[0]? = some (.int (nI 0))) (fa : Nat) (ff : Nat → Int32) (hf : gs[4]? = some (.ref fa)) (k i : Int32) : Met l ({ cls := "ChanceArenaLaw", name := "choose", desc := "(LChanceArena;II)I" } : Jvm.MethodName) (zW (Jvm.Cond.codeWith ({ cls := "ChanceArenaLaw", name := "choose", desc := "(LChanceArena;II)I" } : Jvm.MethodName) method_8_code (4 : Nat) (Option.some Jvm.ClassFile.FieldType.int) [((0 : Nat), (6 : Nat), (9 : Nat), (25 : Nat))])) { frames := 7, cells := 1, slots := 6, locals := 120 } (va_Pc [.ref h0, .int k, .int i] (zPreX D tA [(h0, .inr (0, fs)), (g0, .inr (6, gs)), (fa, .inl (tA 0, 513, .inl ff))] sz lim)) (va_Qi (fun r (_ : Unit) => (fun r => r = 1) r) (fun _ _ => True) (va_A [] sz)) 1 6 (va_A [] sz) := by
  refine zOpenW (lv := [(0, .ref h0), (1, .int k), (2, .int i)]) (by decide) rfl (Nat.le_of_ble_eq_true rfl) rfl ?_
  intro p e s m below meth c A ls hx hb hr hml ht hh hg hown hlocks hK hA hP hD0 h2 hS hl
  refine lv_aload_n hx hb d_La_choose_0 rfl (lv_at hl 0 rfl) ?_
  refine lv_iload_n hx hb d_La_choose_1 rfl (lv_at hl 1 rfl) ?_
  refine lv_iload_n hx hb d_La_choose_2 rfl (lv_at hl 2 rfl) ?_
  refine zCallX (cells := 0) (slots := 0) (As := [.int k, .int i]) (rest := []) ⟨hx, hb, hml, hown, hg⟩ (c_CA_choose_0 l htr D tA _ lim h0 g0 fs gs hgm hv fa ff hf k i) (zV 2 hg k8_215 k8_216 k8_217 k1_1 k8_218 rfl rfl (by decide +kernel) ⟨(Nat.le_of_ble_eq_true rfl), (Nat.le_of_ble_eq_true rfl)⟩) (zPreVX hh hK h2 hP hD0 [0, 1, 2] (by decide) rfl (ci := 0) rfl 0 rfl) rfl hl.1 (lv_room (Nat.le_of_ble_eq_true rfl)) d_La_choose_3 ⟨(Nat.le_of_ble_eq_true rfl), (Nat.le_of_ble_eq_true rfl)⟩ hS (fun E9 a9 ce9 H locs hE9 hc9 hv9 hf9 hS T9 hT9 X9 => ?_)
  subst hE9
  refine xCatch1 hown ⟨0, 6, 9, 25⟩ [] (by rw [ht]; rfl) (by decide) (by decide) (hg _ k8_42) (hg _ k8_49) hc9 hv9 hf9 ?_ hT9 X9
  refine W.eq (g2 := F0 m 9 ls [.ref a9]) rfl ?_
  refine W.cs (cells' := 1) (slots' := 6) rfl rfl ?_
  refine lv_astore_n (lv' := [(3, .ref a9), (0, .ref h0), (1, .int k), (2, .int i)]) hx hb d_La_choose_9 rfl hl (by decide) rfl (fun ls hl => ?_)
  refine lv_iconst (v := 1) hx hb d_La_choose_10 (by decide) ?_
  exact zPret (post := fun r => r = 1) (v := 1) hx hb hr rfl hlocks hS (rfl) d_La_choose_11
set_option maxHeartbeats 4000000 in
set_option maxRecDepth 100000 in
theorem h_adopt_0 (l : Launch) (htr : l.stackTraces = false) (D : va_G) (tA : Nat → ClassId) (sz lim : Nat) (h0 : Nat) (fs : List Value) (v0 : Nat) (vs : List Value) (hvl : fs[11]? = some (.ref v0)) (hkv : vs[1]? = some (.int 0)) : Met l ({ cls := "ChanceArenaLaw", name := "adopt", desc := "(LChanceArena;)I" } : Jvm.MethodName) (zW (Jvm.Cond.codeWith ({ cls := "ChanceArenaLaw", name := "adopt", desc := "(LChanceArena;)I" } : Jvm.MethodName) method_9_code (2 : Nat) (Option.some Jvm.ClassFile.FieldType.int) [((0 : Nat), (4 : Nat), (7 : Nat), (19 : Nat))])) { frames := 7, cells := 1, slots := 6, locals := 120 } (va_Pc [.ref h0] (zPreX D tA [(h0, .inr (0, fs)), (v0, .inr (12, vs))] sz lim)) (va_Qi (fun r (_ : Unit) => (fun r => r = 1) r) (fun _ _ => True) (va_A [] sz)) 1 6 (va_A [] sz) := by
  refine zOpenW (lv := [(0, .ref h0)]) (by decide) rfl (Nat.le_of_ble_eq_true rfl) rfl ?_
  intro p e s m below meth c A ls hx hb hr hml ht hh hg hown hlocks hK hA hP hD0 h2 hS hl
  refine lv_aload_n hx hb d_La_adopt_0 rfl (lv_at hl 0 rfl) ?_
  refine zCallX (cells := 0) (slots := 0) (As := []) (rest := []) ⟨hx, hb, hml, hown, hg⟩ (c_CA_adopt_0 l htr D tA _ lim h0 fs v0 vs hvl hkv) (zV 0 hg k8_222 k8_223 k8_224 k1_1 k8_225 rfl rfl (by decide +kernel) ⟨(Nat.le_of_ble_eq_true rfl), (Nat.le_of_ble_eq_true rfl)⟩) (zPreVX hh hK h2 hP hD0 [0, 1] (by decide) rfl (ci := 0) rfl 0 rfl) rfl hl.1 (lv_room (Nat.le_of_ble_eq_true rfl)) d_La_adopt_1 ⟨(Nat.le_of_ble_eq_true rfl), (Nat.le_of_ble_eq_true rfl)⟩ hS (fun E9 a9 ce9 H locs hE9 hc9 hv9 hf9 hS T9 hT9 X9 => ?_)
  subst hE9
  refine xCatch1 hown ⟨0, 4, 7, 19⟩ [] (by rw [ht]; rfl) (by decide) (by decide) (hg _ k7_206) (hg _ k7_213) hc9 hv9 hf9 ?_ hT9 X9
  refine W.eq (g2 := F0 m 7 ls [.ref a9]) rfl ?_
  refine W.cs (cells' := 1) (slots' := 6) rfl rfl ?_
  refine lv_astore_n (lv' := [(1, .ref a9), (0, .ref h0)]) hx hb d_La_adopt_7 rfl hl (by decide) rfl (fun ls hl => ?_)
  refine lv_iconst (v := 1) hx hb d_La_adopt_8 (by decide) ?_
  exact zPret (post := fun r => r = 1) (v := 1) hx hb hr rfl hlocks hS (rfl) d_La_adopt_9
