theorem k10_81 : (Jvm.Cond.fieldLink "ChanceArenaModel" (142 : Nat) "ChanceArenaModel" "thrown" "I") ∈ lw_R := zR (zk_10 _ (List.mem_of_getElem? (i := 81) (by decide +kernel))) rfl
theorem k10_92 : (Jvm.Cond.fieldLink "ChanceArenaModel" (528 : Nat) "ChanceArenaModel" "known" "Z") ∈ lw_R := zR (zk_10 _ (List.mem_of_getElem? (i := 92) (by decide +kernel))) rfl
theorem k10_110 : (Jvm.Cond.fieldLink "ChanceArenaModel" (532 : Nat) "ChanceArenaModel" "many" "I") ∈ lw_R := zR (zk_10 _ (List.mem_of_getElem? (i := 110) (by decide +kernel))) rfl
theorem k10_232 : (Jvm.Cond.code ({ cls := "ChanceArenaModel", name := "thrown", desc := "()I" } : Jvm.MethodName) prog_15_method_2_code (1 : Nat) (Option.some Jvm.ClassFile.FieldType.int)) ∈ lw_R := zR (zk_10 _ (List.mem_of_getElem? (i := 232) (by decide +kernel))) rfl
theorem k12_80 : (Jvm.Cond.code ({ cls := "ChanceArenaModel", name := "place", desc := "()I" } : Jvm.MethodName) prog_15_method_75_code (1 : Nat) (Option.some Jvm.ClassFile.FieldType.int)) ∈ lw_R := zR (zk_12 _ (List.mem_of_getElem? (i := 80) (by decide +kernel))) rfl
theorem k12_84 : (Jvm.Cond.code ({ cls := "ChanceArenaModel", name := "items", desc := "(I)I" } : Jvm.MethodName) prog_15_method_76_code (2 : Nat) (Option.some Jvm.ClassFile.FieldType.int)) ∈ lw_R := zR (zk_12 _ (List.mem_of_getElem? (i := 84) (by decide +kernel))) rfl
theorem k12_144 : (Jvm.Cond.code ({ cls := "ChanceArenaModel", name := "state", desc := "()I" } : Jvm.MethodName) prog_15_method_87_code (1 : Nat) (Option.some Jvm.ClassFile.FieldType.int)) ∈ lw_R := zR (zk_12 _ (List.mem_of_getElem? (i := 144) (by decide +kernel))) rfl
theorem k12_148 : (Jvm.Cond.code ({ cls := "ChanceArenaModel", name := "states", desc := "()I" } : Jvm.MethodName) prog_15_method_88_code (1 : Nat) (Option.some Jvm.ClassFile.FieldType.int)) ∈ lw_R := zR (zk_12 _ (List.mem_of_getElem? (i := 148) (by decide +kernel))) rfl
theorem k12_160 : (Jvm.Cond.code ({ cls := "ChanceArenaModel", name := "isState", desc := "(I)Z" } : Jvm.MethodName) prog_15_method_90_code (2 : Nat) (Option.some Jvm.ClassFile.FieldType.boolean)) ∈ lw_R := zR (zk_12 _ (List.mem_of_getElem? (i := 160) (by decide +kernel))) rfl
theorem d_MM_thrown_0 : decode prog_15_method_2_code 0 = .ok (.aload_n 0, 1) := dc9_42 (by decide +kernel)
theorem d_MM_thrown_1 : decode prog_15_method_2_code 1 = .ok (.getfield 142, 3) := dc9_180 (by decide +kernel)
theorem d_MM_thrown_4 : decode prog_15_method_2_code 4 = .ok (.ireturn, 1) := dc9_172 (by decide +kernel)
theorem d_MM_place1_0 : decode prog_15_method_75_code 0 = .ok (.aload_n 0, 1) := dc9_42 (by decide +kernel)
theorem d_MM_place1_1 : decode prog_15_method_75_code 1 = .ok (.iconst 0, 1) := dc9_3 (by decide +kernel)
theorem d_MM_place1_2 : decode prog_15_method_75_code 2 = .ok (.putfield 142, 3) := dc9_181 (by decide +kernel)
theorem d_MM_place1_5 : decode prog_15_method_75_code 5 = .ok (.aload_n 0, 1) := dc9_42 (by decide +kernel)
theorem d_MM_place1_6 : decode prog_15_method_75_code 6 = .ok (.getfield 41, 3) := dc9_180 (by decide +kernel)
theorem d_MM_place1_9 : decode prog_15_method_75_code 9 = .ok (.ireturn, 1) := dc9_172 (by decide +kernel)
theorem d_MM_state1_0 : decode prog_15_method_87_code 0 = .ok (.aload_n 0, 1) := dc9_42 (by decide +kernel)
theorem d_MM_state1_1 : decode prog_15_method_87_code 1 = .ok (.iconst 0, 1) := dc9_3 (by decide +kernel)
theorem d_MM_state1_2 : decode prog_15_method_87_code 2 = .ok (.putfield 142, 3) := dc9_181 (by decide +kernel)
theorem d_MM_state1_5 : decode prog_15_method_87_code 5 = .ok (.aload_n 0, 1) := dc9_42 (by decide +kernel)
theorem d_MM_state1_6 : decode prog_15_method_87_code 6 = .ok (.getfield 87, 3) := dc9_180 (by decide +kernel)
theorem d_MM_state1_9 : decode prog_15_method_87_code 9 = .ok (.ireturn, 1) := dc9_172 (by decide +kernel)
theorem d_MM_states_0 : decode prog_15_method_88_code 0 = .ok (.aload_n 0, 1) := dc9_42 (by decide +kernel)
theorem d_MM_states_1 : decode prog_15_method_88_code 1 = .ok (.iconst 0, 1) := dc9_3 (by decide +kernel)
theorem d_MM_states_2 : decode prog_15_method_88_code 2 = .ok (.putfield 142, 3) := dc9_181 (by decide +kernel)
theorem d_MM_states_5 : decode prog_15_method_88_code 5 = .ok (.aload_n 0, 1) := dc9_42 (by decide +kernel)
theorem d_MM_states_6 : decode prog_15_method_88_code 6 = .ok (.getfield 532, 3) := dc9_180 (by decide +kernel)
theorem d_MM_states_9 : decode prog_15_method_88_code 9 = .ok (.ireturn, 1) := dc9_172 (by decide +kernel)
theorem d_MM_items1_0 : decode prog_15_method_76_code 0 = .ok (.aload_n 0, 1) := dc9_42 (by decide +kernel)
theorem d_MM_items1_1 : decode prog_15_method_76_code 1 = .ok (.iconst 0, 1) := dc9_3 (by decide +kernel)
theorem d_MM_items1_2 : decode prog_15_method_76_code 2 = .ok (.putfield 142, 3) := dc9_181 (by decide +kernel)
theorem d_MM_items1_5 : decode prog_15_method_76_code 5 = .ok (.aload_n 0, 1) := dc9_42 (by decide +kernel)
theorem d_MM_items1_6 : decode prog_15_method_76_code 6 = .ok (.getfield 528, 3) := dc9_180 (by decide +kernel)
theorem d_MM_items1_9 : decode prog_15_method_76_code 9 = .ok (.ifCond .ne 7, 3) := dc9_154 (by decide +kernel)
theorem d_MM_items1_12 : decode prog_15_method_76_code 12 = .ok (.iconst (-1), 1) := dc9_2 (by decide +kernel)
theorem d_MM_items1_13 : decode prog_15_method_76_code 13 = .ok (.goto 48, 3) := dc9_167 (by decide +kernel)
theorem d_MM_items1_61 : decode prog_15_method_76_code 61 = .ok (.ireturn, 1) := dc9_172 (by decide +kernel)
theorem d_MM_isState_0 : decode prog_15_method_90_code 0 = .ok (.aload_n 0, 1) := dc9_42 (by decide +kernel)
theorem d_MM_isState_1 : decode prog_15_method_90_code 1 = .ok (.iconst 0, 1) := dc9_3 (by decide +kernel)
theorem d_MM_isState_2 : decode prog_15_method_90_code 2 = .ok (.putfield 142, 3) := dc9_181 (by decide +kernel)
theorem d_MM_isState_5 : decode prog_15_method_90_code 5 = .ok (.iload_n 1, 1) := dc9_27 (by decide +kernel)
theorem d_MM_isState_6 : decode prog_15_method_90_code 6 = .ok (.ifCond .lt 15, 3) := dc9_155 (by decide +kernel)
theorem d_MM_isState_21 : decode prog_15_method_90_code 21 = .ok (.iconst 0, 1) := dc9_3 (by decide +kernel)
theorem d_MM_isState_22 : decode prog_15_method_90_code 22 = .ok (.ireturn, 1) := dc9_172 (by decide +kernel)
theorem d_MM_isState_9 : decode prog_15_method_90_code 9 = .ok (.iload_n 1, 1) := dc9_27 (by decide +kernel)
theorem d_MM_isState_10 : decode prog_15_method_90_code 10 = .ok (.aload_n 0, 1) := dc9_42 (by decide +kernel)
theorem d_MM_isState_11 : decode prog_15_method_90_code 11 = .ok (.getfield 532, 3) := dc9_180 (by decide +kernel)
theorem d_MM_isState_14 : decode prog_15_method_90_code 14 = .ok (.if_icmp .ge 7, 3) := dc9_162 (by decide +kernel)
theorem d_MM_isState_17 : decode prog_15_method_90_code 17 = .ok (.iconst 1, 1) := dc9_4 (by decide +kernel)
theorem d_MM_isState_18 : decode prog_15_method_90_code 18 = .ok (.goto 4, 3) := dc9_167 (by decide +kernel)
theorem zSetN {fs : List Value} {i j : Nat} {v w : Value} (h : i ≠ j) (hv : fs[i]? = some v) : (fs.set j w)[i]? = some v := by rw [List.getElem?_set_ne (Ne.symm h)]; exact hv
theorem zLen {fs : List Value} {j : Nat} {v : Value} (h : fs[j]? = some v) : j < fs.length := (List.getElem?_eq_some_iff.mp h).1
theorem zSetS {fs : List Value} {j : Nat} {v w : Value} (h : fs[j]? = some v) : (fs.set j w)[j]? = some w := by rw [List.getElem?_set_self (zLen h)]
theorem zZret {p : Program} {l : Launch} {e : Env} {R : Room} {s : State} {m : MethodId} {args : Array Value} {below : List Frame} {meth : Method} {c : Code} {H : Heap} {locs : List Loc} {cells slots : Nat} {cc : ByteArray} {S : Type} {post : Int32 → S → Prop} {W1 : S → va_W} {D : va_G} {A : Nat → Prop} {ws : va_W} {v : Int32} {ty : FieldType} (hexec : p.tables.exec = Jvm.exec) (hb : c.code = cc) (hr : meth.sig.returnType = some ty) (hty : narrow ty (.int v) = .int v) (hlocks : meth.locks = false) (hP : va_P D vwCl ws H) (hD : va_D A ws) (hS : va_S A s.heap H locs) (u : S) (hp : post v u) (he : ws = W1 u) {pc : Nat} {ls : Array Slot} (hdg : decode cc pc = .ok (.ireturn, 1)) :
    W p l e R s m args below meth c H locs cells slots (MQ below (va_Qi post (zPost D A W1) A) args s cells slots A) (F0 m pc ls [.int v]) := by
  subst he
  exact W.zret hexec hb hr hty (fun t ht hW => ⟨⟨v, u, rfl, hp, by rw [ht]; exact hP, hD⟩, hS.F ht⟩) hS.2.2 hdg
set_option maxHeartbeats 4000000 in
set_option maxRecDepth 100000 in
theorem c_MM_thrown (l : Launch) (D : va_G) (tA : Nat → ClassId) (sz : Nat) (h0 : Nat) (fs : List Value) (t0 : Int32) (ht : fs[0]? = some (.int t0)) : zMp l ({ cls := "ChanceArenaModel", name := "thrown", desc := "()I" } : Jvm.MethodName) (zW (Jvm.Cond.code ({ cls := "ChanceArenaModel", name := "thrown", desc := "()I" } : Jvm.MethodName) prog_15_method_2_code (1 : Nat) (Option.some Jvm.ClassFile.FieldType.int))) { frames := 0, cells := 0, slots := 0, locals := 0 } [.ref h0] D tA [(h0, .inr (13, fs))] sz (fun r => r = t0) := by
  refine zOpen (Wm := []) (fun A => va_Qi (fun r (_ : Unit) => (fun r => r = t0) r) (fun _ _ => True) A) (lv := [(0, .ref h0)]) (by decide) rfl (Nat.le_of_ble_eq_true rfl) rfl ?_
  intro p e s m below meth c A ls hx hb hr hml hh hg hown hlocks hnm hK hA hP hD0 hAw hS hl
  refine lv_aload_n hx hb d_MM_thrown_0 rfl (lv_at hl 0 rfl) ?_
  refine va_get (D := D) (ci := 13) (v := .int t0) (C := R_MM) (T := T_MM) (N := 49) hx hb hg i_MM hown hK hP 0 rfl rfl 0 (by decide) (hg _ k10_81) (fun _ h9 => h9) ht d_MM_thrown_1 ?_
  exact zPret (post := fun r => r = t0) (v := t0) hx hb hr rfl hlocks hS (rfl) d_MM_thrown_4
set_option maxHeartbeats 4000000 in
set_option maxRecDepth 100000 in
theorem c_MM_place (l : Launch) (D : va_G) (tA : Nat → ClassId) (sz : Nat) (h0 : Nat) (fs : List Value) (t0 : Int32) (ht : fs[0]? = some (.int t0)) (v : Int32) (hv : fs[12]? = some (.int v)) : zMi l ({ cls := "ChanceArenaModel", name := "place", desc := "()I" } : Jvm.MethodName) (zW (Jvm.Cond.code ({ cls := "ChanceArenaModel", name := "place", desc := "()I" } : Jvm.MethodName) prog_15_method_75_code (1 : Nat) (Option.some Jvm.ClassFile.FieldType.int))) { frames := 0, cells := 0, slots := 0, locals := 0 } [.ref h0] D tA [(h0, .inr (13, fs))] sz (fun r (_ : Unit) => (fun r => r = v) r) (fun _ => [(h0, .inr (13, (fs.set 0 (.int 0))))]) 0 0 := by
  refine zOpen (fun A => va_Qi (fun r (_ : Unit) => (fun r => r = v) r) (zPost D A (fun _ => [(h0, .inr (13, (fs.set 0 (.int 0))))])) A) (lv := [(0, .ref h0)]) (by decide) rfl (Nat.le_of_ble_eq_true rfl) rfl ?_
  intro p e s m below meth c A ls hx hb hr hml hh hg hown hlocks hnm hK hA hP hD0 hAw hS hl
  have hD := zD hD0 hAw
  refine lv_aload_n hx hb d_MM_place1_0 rfl (lv_at hl 0 rfl) ?_
  refine lv_iconst (v := 0) hx hb d_MM_place1_1 (by decide) ?_
  refine va_put (D := D) (ci := 13) (v := .int 0) (ty := .int) (C := R_MM) (T := T_MM) (N := 49) hx hb hg i_MM t_MM o_MM n_MM hown hK hP hD hS 0 rfl rfl 0 (by decide) (hg _ k10_81) (fun _ h9 => h9) rfl (by decide +kernel) rfl rfl (zLen ht) d_MM_place1_2 (fun H locs hP hD hS => ?_)
  replace hP : va_P D vwCl [(h0, .inr (13, (fs.set 0 (.int 0))))] _ := hP
  replace hD : va_D A [(h0, .inr (13, (fs.set 0 (.int 0))))] := hD
  refine lv_aload_n hx hb d_MM_place1_5 rfl (lv_at hl 0 rfl) ?_
  refine va_get (D := D) (ci := 13) (v := .int v) (C := R_MM) (T := T_MM) (N := 49) hx hb hg i_MM hown hK hP 0 rfl rfl 12 (by decide) (hg _ k10_93) (fun _ h9 => h9) (zSetN (by decide) hv) d_MM_place1_6 ?_
  exact zZret (post := fun r (_ : Unit) => (fun r => r = v) r) (W1 := fun _ => [(h0, .inr (13, (fs.set 0 (.int 0))))]) (v := v) hx hb hr rfl hlocks hP hD hS () (rfl) rfl d_MM_place1_9
set_option maxHeartbeats 4000000 in
set_option maxRecDepth 100000 in
theorem c_MM_state (l : Launch) (D : va_G) (tA : Nat → ClassId) (sz : Nat) (h0 : Nat) (fs : List Value) (t0 : Int32) (ht : fs[0]? = some (.int t0)) (v : Int32) (hv : fs[30]? = some (.int v)) : zMi l ({ cls := "ChanceArenaModel", name := "state", desc := "()I" } : Jvm.MethodName) (zW (Jvm.Cond.code ({ cls := "ChanceArenaModel", name := "state", desc := "()I" } : Jvm.MethodName) prog_15_method_87_code (1 : Nat) (Option.some Jvm.ClassFile.FieldType.int))) { frames := 0, cells := 0, slots := 0, locals := 0 } [.ref h0] D tA [(h0, .inr (13, fs))] sz (fun r (_ : Unit) => (fun r => r = v) r) (fun _ => [(h0, .inr (13, (fs.set 0 (.int 0))))]) 0 0 := by
  refine zOpen (fun A => va_Qi (fun r (_ : Unit) => (fun r => r = v) r) (zPost D A (fun _ => [(h0, .inr (13, (fs.set 0 (.int 0))))])) A) (lv := [(0, .ref h0)]) (by decide) rfl (Nat.le_of_ble_eq_true rfl) rfl ?_
  intro p e s m below meth c A ls hx hb hr hml hh hg hown hlocks hnm hK hA hP hD0 hAw hS hl
  have hD := zD hD0 hAw
  refine lv_aload_n hx hb d_MM_state1_0 rfl (lv_at hl 0 rfl) ?_
  refine lv_iconst (v := 0) hx hb d_MM_state1_1 (by decide) ?_
  refine va_put (D := D) (ci := 13) (v := .int 0) (ty := .int) (C := R_MM) (T := T_MM) (N := 49) hx hb hg i_MM t_MM o_MM n_MM hown hK hP hD hS 0 rfl rfl 0 (by decide) (hg _ k10_81) (fun _ h9 => h9) rfl (by decide +kernel) rfl rfl (zLen ht) d_MM_state1_2 (fun H locs hP hD hS => ?_)
  replace hP : va_P D vwCl [(h0, .inr (13, (fs.set 0 (.int 0))))] _ := hP
  replace hD : va_D A [(h0, .inr (13, (fs.set 0 (.int 0))))] := hD
  refine lv_aload_n hx hb d_MM_state1_5 rfl (lv_at hl 0 rfl) ?_
  refine va_get (D := D) (ci := 13) (v := .int v) (C := R_MM) (T := T_MM) (N := 49) hx hb hg i_MM hown hK hP 0 rfl rfl 30 (by decide) (hg _ k10_111) (fun _ h9 => h9) (zSetN (by decide) hv) d_MM_state1_6 ?_
  exact zZret (post := fun r (_ : Unit) => (fun r => r = v) r) (W1 := fun _ => [(h0, .inr (13, (fs.set 0 (.int 0))))]) (v := v) hx hb hr rfl hlocks hP hD hS () (rfl) rfl d_MM_state1_9
set_option maxHeartbeats 4000000 in
set_option maxRecDepth 100000 in
theorem c_MM_states (l : Launch) (D : va_G) (tA : Nat → ClassId) (sz : Nat) (h0 : Nat) (fs : List Value) (t0 : Int32) (ht : fs[0]? = some (.int t0)) (v : Int32) (hv : fs[29]? = some (.int v)) : zMi l ({ cls := "ChanceArenaModel", name := "states", desc := "()I" } : Jvm.MethodName) (zW (Jvm.Cond.code ({ cls := "ChanceArenaModel", name := "states", desc := "()I" } : Jvm.MethodName) prog_15_method_88_code (1 : Nat) (Option.some Jvm.ClassFile.FieldType.int))) { frames := 0, cells := 0, slots := 0, locals := 0 } [.ref h0] D tA [(h0, .inr (13, fs))] sz (fun r (_ : Unit) => (fun r => r = v) r) (fun _ => [(h0, .inr (13, (fs.set 0 (.int 0))))]) 0 0 := by
  refine zOpen (fun A => va_Qi (fun r (_ : Unit) => (fun r => r = v) r) (zPost D A (fun _ => [(h0, .inr (13, (fs.set 0 (.int 0))))])) A) (lv := [(0, .ref h0)]) (by decide) rfl (Nat.le_of_ble_eq_true rfl) rfl ?_
  intro p e s m below meth c A ls hx hb hr hml hh hg hown hlocks hnm hK hA hP hD0 hAw hS hl
  have hD := zD hD0 hAw
  refine lv_aload_n hx hb d_MM_states_0 rfl (lv_at hl 0 rfl) ?_
  refine lv_iconst (v := 0) hx hb d_MM_states_1 (by decide) ?_
  refine va_put (D := D) (ci := 13) (v := .int 0) (ty := .int) (C := R_MM) (T := T_MM) (N := 49) hx hb hg i_MM t_MM o_MM n_MM hown hK hP hD hS 0 rfl rfl 0 (by decide) (hg _ k10_81) (fun _ h9 => h9) rfl (by decide +kernel) rfl rfl (zLen ht) d_MM_states_2 (fun H locs hP hD hS => ?_)
  replace hP : va_P D vwCl [(h0, .inr (13, (fs.set 0 (.int 0))))] _ := hP
  replace hD : va_D A [(h0, .inr (13, (fs.set 0 (.int 0))))] := hD
  refine lv_aload_n hx hb d_MM_states_5 rfl (lv_at hl 0 rfl) ?_
  refine va_get (D := D) (ci := 13) (v := .int v) (C := R_MM) (T := T_MM) (N := 49) hx hb hg i_MM hown hK hP 0 rfl rfl 29 (by decide) (hg _ k10_110) (fun _ h9 => h9) (zSetN (by decide) hv) d_MM_states_6 ?_
  exact zZret (post := fun r (_ : Unit) => (fun r => r = v) r) (W1 := fun _ => [(h0, .inr (13, (fs.set 0 (.int 0))))]) (v := v) hx hb hr rfl hlocks hP hD hS () (rfl) rfl d_MM_states_9
set_option maxHeartbeats 4000000 in
set_option maxRecDepth 100000 in
theorem c_MM_items_0 (l : Launch) (D : va_G) (tA : Nat → ClassId) (sz : Nat) (h0 : Nat) (fs : List Value) (t0 : Int32) (ht : fs[0]? = some (.int t0)) (w : Int32) (hv : fs[11]? = some (.int 0)) : zMi l ({ cls := "ChanceArenaModel", name := "items", desc := "(I)I" } : Jvm.MethodName) (zW (Jvm.Cond.code ({ cls := "ChanceArenaModel", name := "items", desc := "(I)I" } : Jvm.MethodName) prog_15_method_76_code (2 : Nat) (Option.some Jvm.ClassFile.FieldType.int))) { frames := 0, cells := 0, slots := 0, locals := 0 } [.ref h0, .int w] D tA [(h0, .inr (13, fs))] sz (fun r (_ : Unit) => (fun r => r = -1) r) (fun _ => [(h0, .inr (13, (fs.set 0 (.int 0))))]) 0 0 := by
  refine zOpen (fun A => va_Qi (fun r (_ : Unit) => (fun r => r = -1) r) (zPost D A (fun _ => [(h0, .inr (13, (fs.set 0 (.int 0))))])) A) (lv := [(0, .ref h0), (1, .int w)]) (by decide) rfl (Nat.le_of_ble_eq_true rfl) rfl ?_
  intro p e s m below meth c A ls hx hb hr hml hh hg hown hlocks hnm hK hA hP hD0 hAw hS hl
  have hD := zD hD0 hAw
  refine lv_aload_n hx hb d_MM_items1_0 rfl (lv_at hl 0 rfl) ?_
  refine lv_iconst (v := 0) hx hb d_MM_items1_1 (by decide) ?_
  refine va_put (D := D) (ci := 13) (v := .int 0) (ty := .int) (C := R_MM) (T := T_MM) (N := 49) hx hb hg i_MM t_MM o_MM n_MM hown hK hP hD hS 0 rfl rfl 0 (by decide) (hg _ k10_81) (fun _ h9 => h9) rfl (by decide +kernel) rfl rfl (zLen ht) d_MM_items1_2 (fun H locs hP hD hS => ?_)
  replace hP : va_P D vwCl [(h0, .inr (13, (fs.set 0 (.int 0))))] _ := hP
  replace hD : va_D A [(h0, .inr (13, (fs.set 0 (.int 0))))] := hD
  refine lv_aload_n hx hb d_MM_items1_5 rfl (lv_at hl 0 rfl) ?_
  refine va_get (D := D) (ci := 13) (v := .int 0) (C := R_MM) (T := T_MM) (N := 49) hx hb hg i_MM hown hK hP 0 rfl rfl 11 (by decide) (hg _ k10_92) (fun _ h9 => h9) (zSetN (by decide) hv) d_MM_items1_6 ?_
  refine lv_if_ne (tgt := 16) hx hb d_MM_items1_9 (by decide) (fun c9 => absurd rfl c9) (fun c9 => ?_)
  refine lv_iconst (v := (-1)) hx hb d_MM_items1_12 (by decide) ?_
  refine lv_goto (tgt := 61) hx hb d_MM_items1_13 (by decide) ?_
  exact zZret (post := fun r (_ : Unit) => (fun r => r = -1) r) (W1 := fun _ => [(h0, .inr (13, (fs.set 0 (.int 0))))]) (v := (-1)) hx hb hr rfl hlocks hP hD hS () (rfl) rfl d_MM_items1_61
set_option maxHeartbeats 4000000 in
set_option maxRecDepth 100000 in
theorem c_MM_isState (l : Launch) (D : va_G) (tA : Nat → ClassId) (sz : Nat) (h0 : Nat) (fs : List Value) (t0 : Int32) (ht : fs[0]? = some (.int t0)) (v k : Int32) (hv : fs[29]? = some (.int v)) : zMi l ({ cls := "ChanceArenaModel", name := "isState", desc := "(I)Z" } : Jvm.MethodName) (zW (Jvm.Cond.code ({ cls := "ChanceArenaModel", name := "isState", desc := "(I)Z" } : Jvm.MethodName) prog_15_method_90_code (2 : Nat) (Option.some Jvm.ClassFile.FieldType.boolean))) { frames := 0, cells := 0, slots := 0, locals := 0 } [.ref h0, .int k] D tA [(h0, .inr (13, fs))] sz (fun r (_ : Unit) => (fun r => r = if 0 ≤ k ∧ k < v then 1 else 0) r) (fun _ => [(h0, .inr (13, (fs.set 0 (.int 0))))]) 0 0 := by
  refine zOpen (fun A => va_Qi (fun r (_ : Unit) => (fun r => r = if 0 ≤ k ∧ k < v then 1 else 0) r) (zPost D A (fun _ => [(h0, .inr (13, (fs.set 0 (.int 0))))])) A) (lv := [(0, .ref h0), (1, .int k)]) (by decide) rfl (Nat.le_of_ble_eq_true rfl) rfl ?_
  intro p e s m below meth c A ls hx hb hr hml hh hg hown hlocks hnm hK hA hP hD0 hAw hS hl
  have hD := zD hD0 hAw
  refine lv_aload_n hx hb d_MM_isState_0 rfl (lv_at hl 0 rfl) ?_
  refine lv_iconst (v := 0) hx hb d_MM_isState_1 (by decide) ?_
  refine va_put (D := D) (ci := 13) (v := .int 0) (ty := .int) (C := R_MM) (T := T_MM) (N := 49) hx hb hg i_MM t_MM o_MM n_MM hown hK hP hD hS 0 rfl rfl 0 (by decide) (hg _ k10_81) (fun _ h9 => h9) rfl (by decide +kernel) rfl rfl (zLen ht) d_MM_isState_2 (fun H locs hP hD hS => ?_)
  replace hP : va_P D vwCl [(h0, .inr (13, (fs.set 0 (.int 0))))] _ := hP
  replace hD : va_D A [(h0, .inr (13, (fs.set 0 (.int 0))))] := hD
  refine lv_iload_n hx hb d_MM_isState_5 rfl (lv_at hl 1 rfl) ?_
  refine lv_if_lt (tgt := 21) hx hb d_MM_isState_6 (by decide) (fun c6 => ?_) (fun c6 => ?_)
  · refine lv_iconst (v := 0) hx hb d_MM_isState_21 (by decide) ?_
    exact zZret (post := fun r (_ : Unit) => (fun r => r = if 0 ≤ k ∧ k < v then 1 else 0) r) (W1 := fun _ => [(h0, .inr (13, (fs.set 0 (.int 0))))]) (v := 0) hx hb hr rfl hlocks hP hD hS () ((if_neg (fun h => absurd c6 (Int32.not_lt.mpr h.1))).symm) rfl d_MM_isState_22
  · refine lv_iload_n hx hb d_MM_isState_9 rfl (lv_at hl 1 rfl) ?_
    refine lv_aload_n hx hb d_MM_isState_10 rfl (lv_at hl 0 rfl) ?_
    refine va_get (D := D) (ci := 13) (v := .int v) (C := R_MM) (T := T_MM) (N := 49) hx hb hg i_MM hown hK hP 0 rfl rfl 29 (by decide) (hg _ k10_110) (fun _ h9 => h9) (zSetN (by decide) hv) d_MM_isState_11 ?_
    refine lv_icmp_ge (tgt := 21) hx hb d_MM_isState_14 (by decide) (fun c14 => ?_) (fun c14 => ?_)
    · refine lv_iconst (v := 0) hx hb d_MM_isState_21 (by decide) ?_
      exact zZret (post := fun r (_ : Unit) => (fun r => r = if 0 ≤ k ∧ k < v then 1 else 0) r) (W1 := fun _ => [(h0, .inr (13, (fs.set 0 (.int 0))))]) (v := 0) hx hb hr rfl hlocks hP hD hS () ((if_neg (fun h => absurd c14 (Int32.not_le.mpr h.2))).symm) rfl d_MM_isState_22
    · refine lv_iconst (v := 1) hx hb d_MM_isState_17 (by decide) ?_
      refine lv_goto (tgt := 22) hx hb d_MM_isState_18 (by decide) ?_
      exact zZret (post := fun r (_ : Unit) => (fun r => r = if 0 ≤ k ∧ k < v then 1 else 0) r) (W1 := fun _ => [(h0, .inr (13, (fs.set 0 (.int 0))))]) (v := 1) hx hb hr rfl hlocks hP hD hS () ((if_pos ⟨Int32.not_lt.mp c6, Int32.not_le.mp c14⟩).symm) rfl d_MM_isState_22
