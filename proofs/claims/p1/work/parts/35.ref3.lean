theorem k13_162 : (Jvm.Cond.code ({ cls := "ChanceArenaModel", name := "choose", desc := "(II)V" } : Jvm.MethodName) prog_15_method_100_code (3 : Nat) (Option.none : Option Jvm.ClassFile.FieldType)) ∈ lw_R := zR (zk_13 _ (List.mem_of_getElem? (i := 162) (by decide +kernel))) rfl
theorem d_MM_choose1_0 : decode prog_15_method_100_code 0 = .ok (.aload_n 0, 1) := dc9_42 (by decide +kernel)
theorem d_MM_choose1_1 : decode prog_15_method_100_code 1 = .ok (.aload_n 0, 1) := dc9_42 (by decide +kernel)
theorem d_MM_choose1_2 : decode prog_15_method_100_code 2 = .ok (.iload_n 1, 1) := dc9_27 (by decide +kernel)
theorem d_MM_choose1_3 : decode prog_15_method_100_code 3 = .ok (.iload_n 2, 1) := dc9_28 (by decide +kernel)
theorem d_MM_choose1_4 : decode prog_15_method_100_code 4 = .ok (.invokevirtual 572, 3) := dc9_182 (by decide +kernel)
theorem d_MM_choose1_7 : decode prog_15_method_100_code 7 = .ok (.ifCond .eq 7, 3) := dc9_153 (by decide +kernel)
theorem d_MM_choose1_14 : decode prog_15_method_100_code 14 = .ok (.iconst 1, 1) := dc9_4 (by decide +kernel)
theorem d_MM_choose1_15 : decode prog_15_method_100_code 15 = .ok (.putfield 142, 3) := dc9_181 (by decide +kernel)
theorem d_MM_choose1_18 : decode prog_15_method_100_code 18 = .ok (.aload_n 0, 1) := dc9_42 (by decide +kernel)
theorem d_MM_choose1_19 : decode prog_15_method_100_code 19 = .ok (.getfield 142, 3) := dc9_180 (by decide +kernel)
theorem d_MM_choose1_22 : decode prog_15_method_100_code 22 = .ok (.ifCond .ne 12, 3) := dc9_154 (by decide +kernel)
theorem d_MM_choose1_34 : decode prog_15_method_100_code 34 = .ok (.return_, 1) := dc9_177 (by decide +kernel)
set_option maxHeartbeats 4000000 in
set_option maxRecDepth 100000 in
theorem c_MM_choose_0 (l : Launch) (D : va_G) (tA : Nat → ClassId) (sz : Nat) (h0 : Nat) (fs : List Value) (t0 : Int32) (ht : fs[0]? = some (.int t0)) (k i : Int32) (hv : fs[29]? = some (.int (nI 0))) : zMv l ({ cls := "ChanceArenaModel", name := "choose", desc := "(II)V" } : Jvm.MethodName) (zW (Jvm.Cond.code ({ cls := "ChanceArenaModel", name := "choose", desc := "(II)V" } : Jvm.MethodName) prog_15_method_100_code (3 : Nat) (Option.none : Option Jvm.ClassFile.FieldType))) { frames := 2, cells := 0, slots := 0, locals := 44 } [.ref h0, .int k, .int i] D tA [(h0, .inr (13, fs))] sz (fun _ : Unit => True) (fun _ => [(h0, .inr (13, ((fs.set 0 (.int 0)).set 0 (.int 1))))]) 0 0 := by
  refine zOpen (fun A => va_Qv (fun _ : Unit => True) (zPost D A (fun _ => [(h0, .inr (13, ((fs.set 0 (.int 0)).set 0 (.int 1))))])) A) (lv := [(0, .ref h0), (1, .int k), (2, .int i)]) (by decide) rfl (Nat.le_of_ble_eq_true rfl) rfl ?_
  intro p e s m below meth c A ls hx hb hr hml hh hg hown hlocks hnm hK hA hP hD0 hAw hS hl
  have hD := zD hD0 hAw
  refine lv_aload_n hx hb d_MM_choose1_0 rfl (lv_at hl 0 rfl) ?_
  refine lv_aload_n hx hb d_MM_choose1_1 rfl (lv_at hl 0 rfl) ?_
  refine lv_iload_n hx hb d_MM_choose1_2 rfl (lv_at hl 1 rfl) ?_
  refine lv_iload_n hx hb d_MM_choose1_3 rfl (lv_at hl 2 rfl) ?_
  refine zCalli (wc := [(h0, .inr (13, fs))]) (wr := []) hP hD hS hA [0] [] rfl rfl (by decide) (by decide) (va_runV (As := [.int k, .int i]) (rest := [.ref h0]) ⟨hx, hb, hml, hown, hg⟩ (c_MM_isCommand_0 l D tA _ h0 fs t0 ht k i hv) (zV 2 hg k12_169 k12_171 ks_MM_isCommand k1_14 k12_172 rfl rfl (by decide +kernel) ⟨(Nat.le_of_ble_eq_true rfl), (Nat.le_of_ble_eq_true rfl)⟩) (zPreV hh hK hP hD [0] (by decide) rfl (ci := 13) rfl 0 rfl) rfl rfl hl.1 rfl (lv_room (Nat.le_of_ble_eq_true rfl)) d_MM_choose1_4 ⟨(Nat.le_of_ble_eq_true rfl), (Nat.le_of_ble_eq_true rfl)⟩) (fun r4 _ H locs er4 hP hD hS => ?_)
  replace hP : va_P D vwCl [(h0, .inr (13, (fs.set 0 (.int 0))))] _ := hP
  replace hD : va_D A [(h0, .inr (13, (fs.set 0 (.int 0))))] := hD
  refine lv_if_eq (tgt := 14) hx hb d_MM_choose1_7 (by decide) (fun c7 => ?_) (fun c7 => absurd er4 c7)
  refine lv_iconst (v := 1) hx hb d_MM_choose1_14 (by decide) ?_
  refine va_put (D := D) (ci := 13) (v := .int 1) (ty := .int) (C := R_MM) (T := T_MM) (N := 49) hx hb hg i_MM t_MM o_MM n_MM hown hK hP hD hS 0 rfl rfl 0 (by decide) (hg _ k10_81) (fun _ h9 => h9) rfl (by decide +kernel) rfl rfl (zLen (zSetS ht)) d_MM_choose1_15 (fun H locs hP hD hS => ?_)
  replace hP : va_P D vwCl [(h0, .inr (13, ((fs.set 0 (.int 0)).set 0 (.int 1))))] _ := hP
  replace hD : va_D A [(h0, .inr (13, ((fs.set 0 (.int 0)).set 0 (.int 1))))] := hD
  refine lv_aload_n hx hb d_MM_choose1_18 rfl (lv_at hl 0 rfl) ?_
  refine va_get (D := D) (ci := 13) (v := .int 1) (C := R_MM) (T := T_MM) (N := 49) hx hb hg i_MM hown hK hP 0 rfl rfl 0 (by decide) (hg _ k10_81) (fun _ h9 => h9) (zSetS (zSetS ht)) d_MM_choose1_19 ?_
  refine lv_if_ne (tgt := 34) hx hb d_MM_choose1_22 (by decide) (fun c22 => ?_) (fun c22 => absurd c22 (by decide))
  exact zVret (post := fun _ : Unit => True) (W1 := fun _ => [(h0, .inr (13, ((fs.set 0 (.int 0)).set 0 (.int 1))))]) hx hb hr hlocks hP hD hS () trivial rfl d_MM_choose1_34
