theorem k10_236 : (Jvm.Cond.code ({ cls := "ChanceArenaModel", name := "feed", desc := "(IIIII)I" } : Jvm.MethodName) prog_15_method_3_code (6 : Nat) (Option.some Jvm.ClassFile.FieldType.int)) ∈ lw_R := zR (zk_10 _ (List.mem_of_getElem? (i := 236) (by decide +kernel))) rfl
theorem k10_237 : (Jvm.Cond.methodLink "ChanceArenaModel" (148 : Nat) ({ cls := "ChanceArenaModel", name := "add4", desc := "(I)V" } : Jvm.MethodName)) ∈ lw_R := zR (zk_10 _ (List.mem_of_getElem? (i := 237) (by decide +kernel))) rfl
theorem k10_239 : (Jvm.Cond.instanceMethod ({ cls := "ChanceArenaModel", name := "add4", desc := "(I)V" } : Jvm.MethodName)) ∈ lw_R := zR (zk_10 _ (List.mem_of_getElem? (i := 239) (by decide +kernel))) rfl
theorem d_MM_feed_0 : decode prog_15_method_3_code 0 = .ok (.aload_n 0, 1) := dc9_42 (by decide +kernel)
theorem d_MM_feed_1 : decode prog_15_method_3_code 1 = .ok (.iconst 0, 1) := dc9_3 (by decide +kernel)
theorem d_MM_feed_2 : decode prog_15_method_3_code 2 = .ok (.putfield 142, 3) := dc9_181 (by decide +kernel)
theorem d_MM_feed_5 : decode prog_15_method_3_code 5 = .ok (.aload_n 0, 1) := dc9_42 (by decide +kernel)
theorem d_MM_feed_6 : decode prog_15_method_3_code 6 = .ok (.getfield 10, 3) := dc9_180 (by decide +kernel)
theorem d_MM_feed_9 : decode prog_15_method_3_code 9 = .ok (.getfield 145, 3) := dc9_180 (by decide +kernel)
theorem d_MM_feed_12 : decode prog_15_method_3_code 12 = .ok (.bipush 20, 2) := dc9_16 (by decide +kernel)
theorem d_MM_feed_14 : decode prog_15_method_3_code 14 = .ok (.iadd, 1) := dc9_96 (by decide +kernel)
theorem d_MM_feed_15 : decode prog_15_method_3_code 15 = .ok (.sipush 16384, 3) := dc9_17 (by decide +kernel)
theorem d_MM_feed_18 : decode prog_15_method_3_code 18 = .ok (.if_icmp .le 5, 3) := dc9_164 (by decide +kernel)
theorem d_MM_feed_23 : decode prog_15_method_3_code 23 = .ok (.aload_n 0, 1) := dc9_42 (by decide +kernel)
theorem d_MM_feed_24 : decode prog_15_method_3_code 24 = .ok (.iload_n 1, 1) := dc9_27 (by decide +kernel)
theorem d_MM_feed_25 : decode prog_15_method_3_code 25 = .ok (.invokevirtual 148, 3) := dc9_182 (by decide +kernel)
theorem ks_MM_add4 : Cond.selects "ChanceArenaModel" ({ cls := "ChanceArenaModel", name := "add4", desc := "(I)V" } : Jvm.MethodName) ({ cls := "ChanceArenaModel", name := "add4", desc := "(I)V" } : Jvm.MethodName) ∈ lw_R := zR (List.mem_append_left _ (List.mem_of_getElem? (i := 79) (by decide +kernel))) rfl
theorem d_MM_feed_28 : decode prog_15_method_3_code 28 = .ok (.aload_n 0, 1) := dc9_42 (by decide +kernel)
theorem d_MM_feed_29 : decode prog_15_method_3_code 29 = .ok (.iload_n 2, 1) := dc9_28 (by decide +kernel)
theorem d_MM_feed_30 : decode prog_15_method_3_code 30 = .ok (.invokevirtual 148, 3) := dc9_182 (by decide +kernel)
theorem d_MM_feed_33 : decode prog_15_method_3_code 33 = .ok (.aload_n 0, 1) := dc9_42 (by decide +kernel)
theorem d_MM_feed_34 : decode prog_15_method_3_code 34 = .ok (.iload_n 3, 1) := dc9_29 (by decide +kernel)
theorem d_MM_feed_35 : decode prog_15_method_3_code 35 = .ok (.invokevirtual 148, 3) := dc9_182 (by decide +kernel)
theorem d_MM_feed_38 : decode prog_15_method_3_code 38 = .ok (.aload_n 0, 1) := dc9_42 (by decide +kernel)
theorem d_MM_feed_39 : decode prog_15_method_3_code 39 = .ok (.iload 4, 2) := dc9_21 (by decide +kernel)
theorem d_MM_feed_41 : decode prog_15_method_3_code 41 = .ok (.invokevirtual 148, 3) := dc9_182 (by decide +kernel)
theorem d_MM_feed_44 : decode prog_15_method_3_code 44 = .ok (.aload_n 0, 1) := dc9_42 (by decide +kernel)
theorem d_MM_feed_45 : decode prog_15_method_3_code 45 = .ok (.iload 5, 2) := dc9_21 (by decide +kernel)
theorem d_MM_feed_47 : decode prog_15_method_3_code 47 = .ok (.invokevirtual 148, 3) := dc9_182 (by decide +kernel)
theorem d_MM_feed_50 : decode prog_15_method_3_code 50 = .ok (.aload_n 0, 1) := dc9_42 (by decide +kernel)
theorem d_MM_feed_51 : decode prog_15_method_3_code 51 = .ok (.getfield 10, 3) := dc9_180 (by decide +kernel)
theorem d_MM_feed_54 : decode prog_15_method_3_code 54 = .ok (.getfield 145, 3) := dc9_180 (by decide +kernel)
theorem d_MM_feed_57 : decode prog_15_method_3_code 57 = .ok (.ireturn, 1) := dc9_172 (by decide +kernel)
set_option maxHeartbeats 4000000 in
set_option maxRecDepth 100000 in
theorem c_MM_add4_at0 (l : Launch) (D : va_G) (tA : Nat → ClassId) (sz : Nat) (h0 : Nat) (n0 : Nat) (na : Nat) (fs : List Value) (f : Nat → Int32) (b : Int32) (hh0_tape : fs[1]? = some (.ref n0)) : zMv l ({ cls := "ChanceArenaModel", name := "add4", desc := "(I)V" } : Jvm.MethodName) (zW (Jvm.Cond.code ({ cls := "ChanceArenaModel", name := "add4", desc := "(I)V" } : Jvm.MethodName) prog_15_method_4_code (3 : Nat) (Option.none : Option Jvm.ClassFile.FieldType))) { frames := 1, cells := 0, slots := 0, locals := 23 } [.ref h0, .int b] D tA [(h0, .inr (13, fs)), (n0, .inr (14, [.ref na, .int 0])), (na, .inl (tA 0, 16, .inl (f)))] sz (fun _ : Unit => True) (fun _ => [(h0, .inr (13, fs)), (n0, .inr (14, [.ref na, .int 4])), (na, .inl (tA 0, 16, .inl (upd ((upd ((upd ((upd (f) 0 (((b >>> (24 &&& 31)) &&& 255)))) 1 (((b >>> (16 &&& 31)) &&& 255)))) 2 (((b >>> (8 &&& 31)) &&& 255)))) 3 (((b >>> (0 &&& 31)) &&& 255)))))]) 0 0 := by
  refine zOpen (fun A => va_Qv (fun _ : Unit => True) (zPost D A (fun _ => [(h0, .inr (13, fs)), (n0, .inr (14, [.ref na, .int 4])), (na, .inl (tA 0, 16, .inl (upd ((upd ((upd ((upd (f) 0 (((b >>> (24 &&& 31)) &&& 255)))) 1 (((b >>> (16 &&& 31)) &&& 255)))) 2 (((b >>> (8 &&& 31)) &&& 255)))) 3 (((b >>> (0 &&& 31)) &&& 255)))))])) A) (lv := [(0, .ref h0), (1, .int b)]) (by decide) rfl (Nat.le_of_ble_eq_true rfl) rfl ?_
  intro p e s m below meth c A ls hx hb hr hml hh hg hown hlocks hnm hK hA hP hD0 hAw hS hl
  have hD := zD hD0 hAw
  refine lv_bipush (v := 24) hx hb d_MM_add4_0 (by decide) ?_
  refine lv_istore_n (lv' := [(2, .int 24), (0, .ref h0), (1, .int b)]) hx hb d_MM_add4_2 rfl hl (by decide) rfl (fun ls hl => ?_)
  refine lv_iload_n hx hb d_MM_add4_3 rfl (lv_at hl 0 rfl) ?_
  refine lv_if_lt (tgt := 27) hx hb d_MM_add4_4 (by decide) (fun c9 => absurd c9 (by decide)) (fun _ => ?_)
  refine lv_aload_n hx hb d_MM_add4_7 rfl (lv_at hl 1 rfl) ?_
  refine va_get (D := D) (ci := 13) (v := .ref n0) (C := R_MM) (T := T_MM) (N := 49) hx hb hg i_MM hown hK hP 0 rfl rfl 1 (by decide) (hg _ k10_82) (fun _ h9 => h9) hh0_tape d_MM_add4_8 ?_
  refine lv_iload_n hx hb d_MM_add4_11 rfl (lv_at hl 2 rfl) ?_
  refine lv_iload_n hx hb d_MM_add4_12 rfl (lv_at hl 0 rfl) ?_
  refine lv_ishr hx hb d_MM_add4_13 ?_
  refine lv_sipush (v := 255) hx hb d_MM_add4_14 (by decide) ?_
  refine lv_iand hx hb d_MM_add4_17 ?_
  refine zCallv (wc := [(n0, .inr (14, [.ref na, .int 0])), (na, .inl (tA 0, 16, .inl (f)))]) (wr := [(h0, .inr (13, fs))]) hP hD hS hA [1, 2] [0] rfl rfl (by decide) (by decide) (va_runV (As := [.int ((b >>> (24 &&& 31)) &&& 255)]) (rest := []) ⟨hx, hb, hml, hown, hg⟩ (c_MN_add_room l D tA _ n0 na 16 0 f ((b >>> (24 &&& 31)) &&& 255) (by decide) (by decide)) (zV 1 hg k11_1 k11_2 k11_3 k1_15 k11_4 rfl rfl (by decide +kernel) ⟨(Nat.le_of_ble_eq_true rfl), (Nat.le_of_ble_eq_true rfl)⟩) (zPreV hh hK hP hD [1, 2] (by decide) rfl (ci := 14) rfl 0 rfl) rfl rfl hl.1 rfl (lv_room (Nat.le_of_ble_eq_true rfl)) d_MM_add4_18 ⟨(Nat.le_of_ble_eq_true rfl), (Nat.le_of_ble_eq_true rfl)⟩) (fun _ H1 locs1 _ hP1 hD1 hS1 => ?_)
  clear hP hD hS
  replace hP1 : va_P D vwCl [(h0, .inr (13, fs)), (n0, .inr (14, [.ref na, .int 1])), (na, .inl (tA 0, 16, .inl (upd (f) 0 (((b >>> (24 &&& 31)) &&& 255)))))] _ := hP1
  replace hD1 : va_D A [(h0, .inr (13, fs)), (n0, .inr (14, [.ref na, .int 1])), (na, .inl (tA 0, 16, .inl (upd (f) 0 (((b >>> (24 &&& 31)) &&& 255)))))] := hD1
  refine lv_iinc (v := 16) (lv' := [(2, .int 16), (0, .ref h0), (1, .int b)]) hx hb d_MM_add4_21 hl (k := 0) rfl (by decide) (by decide) rfl (fun ls hl => ?_)
  refine lv_goto (tgt := 3) hx hb d_MM_add4_24 (by decide) ?_
  refine lv_iload_n hx hb d_MM_add4_3 rfl (lv_at hl 0 rfl) ?_
  refine lv_if_lt (tgt := 27) hx hb d_MM_add4_4 (by decide) (fun c9 => absurd c9 (by decide)) (fun _ => ?_)
  refine lv_aload_n hx hb d_MM_add4_7 rfl (lv_at hl 1 rfl) ?_
  refine va_get (D := D) (ci := 13) (v := .ref n0) (C := R_MM) (T := T_MM) (N := 49) hx hb hg i_MM hown hK hP1 0 rfl rfl 1 (by decide) (hg _ k10_82) (fun _ h9 => h9) hh0_tape d_MM_add4_8 ?_
  refine lv_iload_n hx hb d_MM_add4_11 rfl (lv_at hl 2 rfl) ?_
  refine lv_iload_n hx hb d_MM_add4_12 rfl (lv_at hl 0 rfl) ?_
  refine lv_ishr hx hb d_MM_add4_13 ?_
  refine lv_sipush (v := 255) hx hb d_MM_add4_14 (by decide) ?_
  refine lv_iand hx hb d_MM_add4_17 ?_
  refine zCallv (wc := [(n0, .inr (14, [.ref na, .int 1])), (na, .inl (tA 0, 16, .inl (upd (f) 0 (((b >>> (24 &&& 31)) &&& 255)))))]) (wr := [(h0, .inr (13, fs))]) hP1 hD1 hS1 hA [1, 2] [0] rfl rfl (by decide) (by decide) (va_runV (As := [.int ((b >>> (16 &&& 31)) &&& 255)]) (rest := []) ⟨hx, hb, hml, hown, hg⟩ (c_MN_add_room l D tA _ n0 na 16 1 (upd (f) 0 (((b >>> (24 &&& 31)) &&& 255))) ((b >>> (16 &&& 31)) &&& 255) (by decide) (by decide)) (zV 1 hg k11_1 k11_2 k11_3 k1_15 k11_4 rfl rfl (by decide +kernel) ⟨(Nat.le_of_ble_eq_true rfl), (Nat.le_of_ble_eq_true rfl)⟩) (zPreV hh hK hP1 hD1 [1, 2] (by decide) rfl (ci := 14) rfl 0 rfl) rfl rfl hl.1 rfl (lv_room (Nat.le_of_ble_eq_true rfl)) d_MM_add4_18 ⟨(Nat.le_of_ble_eq_true rfl), (Nat.le_of_ble_eq_true rfl)⟩) (fun _ H2 locs2 _ hP2 hD2 hS2 => ?_)
  clear hP1 hD1 hS1
  replace hP2 : va_P D vwCl [(h0, .inr (13, fs)), (n0, .inr (14, [.ref na, .int 2])), (na, .inl (tA 0, 16, .inl (upd ((upd (f) 0 (((b >>> (24 &&& 31)) &&& 255)))) 1 (((b >>> (16 &&& 31)) &&& 255)))))] _ := hP2
  replace hD2 : va_D A [(h0, .inr (13, fs)), (n0, .inr (14, [.ref na, .int 2])), (na, .inl (tA 0, 16, .inl (upd ((upd (f) 0 (((b >>> (24 &&& 31)) &&& 255)))) 1 (((b >>> (16 &&& 31)) &&& 255)))))] := hD2
  refine lv_iinc (v := 8) (lv' := [(2, .int 8), (0, .ref h0), (1, .int b)]) hx hb d_MM_add4_21 hl (k := 0) rfl (by decide) (by decide) rfl (fun ls hl => ?_)
  refine lv_goto (tgt := 3) hx hb d_MM_add4_24 (by decide) ?_
  refine lv_iload_n hx hb d_MM_add4_3 rfl (lv_at hl 0 rfl) ?_
  refine lv_if_lt (tgt := 27) hx hb d_MM_add4_4 (by decide) (fun c9 => absurd c9 (by decide)) (fun _ => ?_)
  refine lv_aload_n hx hb d_MM_add4_7 rfl (lv_at hl 1 rfl) ?_
  refine va_get (D := D) (ci := 13) (v := .ref n0) (C := R_MM) (T := T_MM) (N := 49) hx hb hg i_MM hown hK hP2 0 rfl rfl 1 (by decide) (hg _ k10_82) (fun _ h9 => h9) hh0_tape d_MM_add4_8 ?_
  refine lv_iload_n hx hb d_MM_add4_11 rfl (lv_at hl 2 rfl) ?_
  refine lv_iload_n hx hb d_MM_add4_12 rfl (lv_at hl 0 rfl) ?_
  refine lv_ishr hx hb d_MM_add4_13 ?_
  refine lv_sipush (v := 255) hx hb d_MM_add4_14 (by decide) ?_
  refine lv_iand hx hb d_MM_add4_17 ?_
  refine zCallv (wc := [(n0, .inr (14, [.ref na, .int 2])), (na, .inl (tA 0, 16, .inl (upd ((upd (f) 0 (((b >>> (24 &&& 31)) &&& 255)))) 1 (((b >>> (16 &&& 31)) &&& 255)))))]) (wr := [(h0, .inr (13, fs))]) hP2 hD2 hS2 hA [1, 2] [0] rfl rfl (by decide) (by decide) (va_runV (As := [.int ((b >>> (8 &&& 31)) &&& 255)]) (rest := []) ⟨hx, hb, hml, hown, hg⟩ (c_MN_add_room l D tA _ n0 na 16 2 (upd ((upd (f) 0 (((b >>> (24 &&& 31)) &&& 255)))) 1 (((b >>> (16 &&& 31)) &&& 255))) ((b >>> (8 &&& 31)) &&& 255) (by decide) (by decide)) (zV 1 hg k11_1 k11_2 k11_3 k1_15 k11_4 rfl rfl (by decide +kernel) ⟨(Nat.le_of_ble_eq_true rfl), (Nat.le_of_ble_eq_true rfl)⟩) (zPreV hh hK hP2 hD2 [1, 2] (by decide) rfl (ci := 14) rfl 0 rfl) rfl rfl hl.1 rfl (lv_room (Nat.le_of_ble_eq_true rfl)) d_MM_add4_18 ⟨(Nat.le_of_ble_eq_true rfl), (Nat.le_of_ble_eq_true rfl)⟩) (fun _ H3 locs3 _ hP3 hD3 hS3 => ?_)
  clear hP2 hD2 hS2
  replace hP3 : va_P D vwCl [(h0, .inr (13, fs)), (n0, .inr (14, [.ref na, .int 3])), (na, .inl (tA 0, 16, .inl (upd ((upd ((upd (f) 0 (((b >>> (24 &&& 31)) &&& 255)))) 1 (((b >>> (16 &&& 31)) &&& 255)))) 2 (((b >>> (8 &&& 31)) &&& 255)))))] _ := hP3
  replace hD3 : va_D A [(h0, .inr (13, fs)), (n0, .inr (14, [.ref na, .int 3])), (na, .inl (tA 0, 16, .inl (upd ((upd ((upd (f) 0 (((b >>> (24 &&& 31)) &&& 255)))) 1 (((b >>> (16 &&& 31)) &&& 255)))) 2 (((b >>> (8 &&& 31)) &&& 255)))))] := hD3
  refine lv_iinc (v := 0) (lv' := [(2, .int 0), (0, .ref h0), (1, .int b)]) hx hb d_MM_add4_21 hl (k := 0) rfl (by decide) (by decide) rfl (fun ls hl => ?_)
  refine lv_goto (tgt := 3) hx hb d_MM_add4_24 (by decide) ?_
  refine lv_iload_n hx hb d_MM_add4_3 rfl (lv_at hl 0 rfl) ?_
  refine lv_if_lt (tgt := 27) hx hb d_MM_add4_4 (by decide) (fun c9 => absurd c9 (by decide)) (fun _ => ?_)
  refine lv_aload_n hx hb d_MM_add4_7 rfl (lv_at hl 1 rfl) ?_
  refine va_get (D := D) (ci := 13) (v := .ref n0) (C := R_MM) (T := T_MM) (N := 49) hx hb hg i_MM hown hK hP3 0 rfl rfl 1 (by decide) (hg _ k10_82) (fun _ h9 => h9) hh0_tape d_MM_add4_8 ?_
  refine lv_iload_n hx hb d_MM_add4_11 rfl (lv_at hl 2 rfl) ?_
  refine lv_iload_n hx hb d_MM_add4_12 rfl (lv_at hl 0 rfl) ?_
  refine lv_ishr hx hb d_MM_add4_13 ?_
  refine lv_sipush (v := 255) hx hb d_MM_add4_14 (by decide) ?_
  refine lv_iand hx hb d_MM_add4_17 ?_
  refine zCallv (wc := [(n0, .inr (14, [.ref na, .int 3])), (na, .inl (tA 0, 16, .inl (upd ((upd ((upd (f) 0 (((b >>> (24 &&& 31)) &&& 255)))) 1 (((b >>> (16 &&& 31)) &&& 255)))) 2 (((b >>> (8 &&& 31)) &&& 255)))))]) (wr := [(h0, .inr (13, fs))]) hP3 hD3 hS3 hA [1, 2] [0] rfl rfl (by decide) (by decide) (va_runV (As := [.int ((b >>> (0 &&& 31)) &&& 255)]) (rest := []) ⟨hx, hb, hml, hown, hg⟩ (c_MN_add_room l D tA _ n0 na 16 3 (upd ((upd ((upd (f) 0 (((b >>> (24 &&& 31)) &&& 255)))) 1 (((b >>> (16 &&& 31)) &&& 255)))) 2 (((b >>> (8 &&& 31)) &&& 255))) ((b >>> (0 &&& 31)) &&& 255) (by decide) (by decide)) (zV 1 hg k11_1 k11_2 k11_3 k1_15 k11_4 rfl rfl (by decide +kernel) ⟨(Nat.le_of_ble_eq_true rfl), (Nat.le_of_ble_eq_true rfl)⟩) (zPreV hh hK hP3 hD3 [1, 2] (by decide) rfl (ci := 14) rfl 0 rfl) rfl rfl hl.1 rfl (lv_room (Nat.le_of_ble_eq_true rfl)) d_MM_add4_18 ⟨(Nat.le_of_ble_eq_true rfl), (Nat.le_of_ble_eq_true rfl)⟩) (fun _ H4 locs4 _ hP4 hD4 hS4 => ?_)
  clear hP3 hD3 hS3
  replace hP4 : va_P D vwCl [(h0, .inr (13, fs)), (n0, .inr (14, [.ref na, .int 4])), (na, .inl (tA 0, 16, .inl (upd ((upd ((upd ((upd (f) 0 (((b >>> (24 &&& 31)) &&& 255)))) 1 (((b >>> (16 &&& 31)) &&& 255)))) 2 (((b >>> (8 &&& 31)) &&& 255)))) 3 (((b >>> (0 &&& 31)) &&& 255)))))] _ := hP4
  replace hD4 : va_D A [(h0, .inr (13, fs)), (n0, .inr (14, [.ref na, .int 4])), (na, .inl (tA 0, 16, .inl (upd ((upd ((upd ((upd (f) 0 (((b >>> (24 &&& 31)) &&& 255)))) 1 (((b >>> (16 &&& 31)) &&& 255)))) 2 (((b >>> (8 &&& 31)) &&& 255)))) 3 (((b >>> (0 &&& 31)) &&& 255)))))] := hD4
  refine lv_iinc (v := (-8)) (lv' := [(2, .int (-8)), (0, .ref h0), (1, .int b)]) hx hb d_MM_add4_21 hl (k := 0) rfl (by decide) (by decide) rfl (fun ls hl => ?_)
  refine lv_goto (tgt := 3) hx hb d_MM_add4_24 (by decide) ?_
  refine lv_iload_n hx hb d_MM_add4_3 rfl (lv_at hl 0 rfl) ?_
  refine lv_if_lt (tgt := 27) hx hb d_MM_add4_4 (by decide) (fun _ => ?_) (fun c9 => absurd (by decide) c9)
  exact zVret (post := fun _ : Unit => True) (W1 := fun _ => [(h0, .inr (13, fs)), (n0, .inr (14, [.ref na, .int 4])), (na, .inl (tA 0, 16, .inl (upd ((upd ((upd ((upd (f) 0 (((b >>> (24 &&& 31)) &&& 255)))) 1 (((b >>> (16 &&& 31)) &&& 255)))) 2 (((b >>> (8 &&& 31)) &&& 255)))) 3 (((b >>> (0 &&& 31)) &&& 255)))))]) hx hb hr hlocks hP4 hD4 hS4 () trivial rfl d_MM_add4_27
set_option maxHeartbeats 4000000 in
set_option maxRecDepth 100000 in
theorem c_MM_add4_at4 (l : Launch) (D : va_G) (tA : Nat → ClassId) (sz : Nat) (h0 : Nat) (n0 : Nat) (na : Nat) (fs : List Value) (f : Nat → Int32) (b : Int32) (hh0_tape : fs[1]? = some (.ref n0)) : zMv l ({ cls := "ChanceArenaModel", name := "add4", desc := "(I)V" } : Jvm.MethodName) (zW (Jvm.Cond.code ({ cls := "ChanceArenaModel", name := "add4", desc := "(I)V" } : Jvm.MethodName) prog_15_method_4_code (3 : Nat) (Option.none : Option Jvm.ClassFile.FieldType))) { frames := 1, cells := 0, slots := 0, locals := 23 } [.ref h0, .int b] D tA [(h0, .inr (13, fs)), (n0, .inr (14, [.ref na, .int 4])), (na, .inl (tA 0, 16, .inl (f)))] sz (fun _ : Unit => True) (fun _ => [(h0, .inr (13, fs)), (n0, .inr (14, [.ref na, .int 8])), (na, .inl (tA 0, 16, .inl (upd ((upd ((upd ((upd (f) 4 (((b >>> (24 &&& 31)) &&& 255)))) 5 (((b >>> (16 &&& 31)) &&& 255)))) 6 (((b >>> (8 &&& 31)) &&& 255)))) 7 (((b >>> (0 &&& 31)) &&& 255)))))]) 0 0 := by
  refine zOpen (fun A => va_Qv (fun _ : Unit => True) (zPost D A (fun _ => [(h0, .inr (13, fs)), (n0, .inr (14, [.ref na, .int 8])), (na, .inl (tA 0, 16, .inl (upd ((upd ((upd ((upd (f) 4 (((b >>> (24 &&& 31)) &&& 255)))) 5 (((b >>> (16 &&& 31)) &&& 255)))) 6 (((b >>> (8 &&& 31)) &&& 255)))) 7 (((b >>> (0 &&& 31)) &&& 255)))))])) A) (lv := [(0, .ref h0), (1, .int b)]) (by decide) rfl (Nat.le_of_ble_eq_true rfl) rfl ?_
  intro p e s m below meth c A ls hx hb hr hml hh hg hown hlocks hnm hK hA hP hD0 hAw hS hl
  have hD := zD hD0 hAw
  refine lv_bipush (v := 24) hx hb d_MM_add4_0 (by decide) ?_
  refine lv_istore_n (lv' := [(2, .int 24), (0, .ref h0), (1, .int b)]) hx hb d_MM_add4_2 rfl hl (by decide) rfl (fun ls hl => ?_)
  refine lv_iload_n hx hb d_MM_add4_3 rfl (lv_at hl 0 rfl) ?_
  refine lv_if_lt (tgt := 27) hx hb d_MM_add4_4 (by decide) (fun c9 => absurd c9 (by decide)) (fun _ => ?_)
  refine lv_aload_n hx hb d_MM_add4_7 rfl (lv_at hl 1 rfl) ?_
  refine va_get (D := D) (ci := 13) (v := .ref n0) (C := R_MM) (T := T_MM) (N := 49) hx hb hg i_MM hown hK hP 0 rfl rfl 1 (by decide) (hg _ k10_82) (fun _ h9 => h9) hh0_tape d_MM_add4_8 ?_
  refine lv_iload_n hx hb d_MM_add4_11 rfl (lv_at hl 2 rfl) ?_
  refine lv_iload_n hx hb d_MM_add4_12 rfl (lv_at hl 0 rfl) ?_
  refine lv_ishr hx hb d_MM_add4_13 ?_
  refine lv_sipush (v := 255) hx hb d_MM_add4_14 (by decide) ?_
  refine lv_iand hx hb d_MM_add4_17 ?_
  refine zCallv (wc := [(n0, .inr (14, [.ref na, .int 4])), (na, .inl (tA 0, 16, .inl (f)))]) (wr := [(h0, .inr (13, fs))]) hP hD hS hA [1, 2] [0] rfl rfl (by decide) (by decide) (va_runV (As := [.int ((b >>> (24 &&& 31)) &&& 255)]) (rest := []) ⟨hx, hb, hml, hown, hg⟩ (c_MN_add_room l D tA _ n0 na 16 4 f ((b >>> (24 &&& 31)) &&& 255) (by decide) (by decide)) (zV 1 hg k11_1 k11_2 k11_3 k1_15 k11_4 rfl rfl (by decide +kernel) ⟨(Nat.le_of_ble_eq_true rfl), (Nat.le_of_ble_eq_true rfl)⟩) (zPreV hh hK hP hD [1, 2] (by decide) rfl (ci := 14) rfl 0 rfl) rfl rfl hl.1 rfl (lv_room (Nat.le_of_ble_eq_true rfl)) d_MM_add4_18 ⟨(Nat.le_of_ble_eq_true rfl), (Nat.le_of_ble_eq_true rfl)⟩) (fun _ H1 locs1 _ hP1 hD1 hS1 => ?_)
  clear hP hD hS
  replace hP1 : va_P D vwCl [(h0, .inr (13, fs)), (n0, .inr (14, [.ref na, .int 5])), (na, .inl (tA 0, 16, .inl (upd (f) 4 (((b >>> (24 &&& 31)) &&& 255)))))] _ := hP1
  replace hD1 : va_D A [(h0, .inr (13, fs)), (n0, .inr (14, [.ref na, .int 5])), (na, .inl (tA 0, 16, .inl (upd (f) 4 (((b >>> (24 &&& 31)) &&& 255)))))] := hD1
  refine lv_iinc (v := 16) (lv' := [(2, .int 16), (0, .ref h0), (1, .int b)]) hx hb d_MM_add4_21 hl (k := 0) rfl (by decide) (by decide) rfl (fun ls hl => ?_)
  refine lv_goto (tgt := 3) hx hb d_MM_add4_24 (by decide) ?_
  refine lv_iload_n hx hb d_MM_add4_3 rfl (lv_at hl 0 rfl) ?_
  refine lv_if_lt (tgt := 27) hx hb d_MM_add4_4 (by decide) (fun c9 => absurd c9 (by decide)) (fun _ => ?_)
  refine lv_aload_n hx hb d_MM_add4_7 rfl (lv_at hl 1 rfl) ?_
  refine va_get (D := D) (ci := 13) (v := .ref n0) (C := R_MM) (T := T_MM) (N := 49) hx hb hg i_MM hown hK hP1 0 rfl rfl 1 (by decide) (hg _ k10_82) (fun _ h9 => h9) hh0_tape d_MM_add4_8 ?_
  refine lv_iload_n hx hb d_MM_add4_11 rfl (lv_at hl 2 rfl) ?_
  refine lv_iload_n hx hb d_MM_add4_12 rfl (lv_at hl 0 rfl) ?_
  refine lv_ishr hx hb d_MM_add4_13 ?_
  refine lv_sipush (v := 255) hx hb d_MM_add4_14 (by decide) ?_
  refine lv_iand hx hb d_MM_add4_17 ?_
  refine zCallv (wc := [(n0, .inr (14, [.ref na, .int 5])), (na, .inl (tA 0, 16, .inl (upd (f) 4 (((b >>> (24 &&& 31)) &&& 255)))))]) (wr := [(h0, .inr (13, fs))]) hP1 hD1 hS1 hA [1, 2] [0] rfl rfl (by decide) (by decide) (va_runV (As := [.int ((b >>> (16 &&& 31)) &&& 255)]) (rest := []) ⟨hx, hb, hml, hown, hg⟩ (c_MN_add_room l D tA _ n0 na 16 5 (upd (f) 4 (((b >>> (24 &&& 31)) &&& 255))) ((b >>> (16 &&& 31)) &&& 255) (by decide) (by decide)) (zV 1 hg k11_1 k11_2 k11_3 k1_15 k11_4 rfl rfl (by decide +kernel) ⟨(Nat.le_of_ble_eq_true rfl), (Nat.le_of_ble_eq_true rfl)⟩) (zPreV hh hK hP1 hD1 [1, 2] (by decide) rfl (ci := 14) rfl 0 rfl) rfl rfl hl.1 rfl (lv_room (Nat.le_of_ble_eq_true rfl)) d_MM_add4_18 ⟨(Nat.le_of_ble_eq_true rfl), (Nat.le_of_ble_eq_true rfl)⟩) (fun _ H2 locs2 _ hP2 hD2 hS2 => ?_)
  clear hP1 hD1 hS1
  replace hP2 : va_P D vwCl [(h0, .inr (13, fs)), (n0, .inr (14, [.ref na, .int 6])), (na, .inl (tA 0, 16, .inl (upd ((upd (f) 4 (((b >>> (24 &&& 31)) &&& 255)))) 5 (((b >>> (16 &&& 31)) &&& 255)))))] _ := hP2
  replace hD2 : va_D A [(h0, .inr (13, fs)), (n0, .inr (14, [.ref na, .int 6])), (na, .inl (tA 0, 16, .inl (upd ((upd (f) 4 (((b >>> (24 &&& 31)) &&& 255)))) 5 (((b >>> (16 &&& 31)) &&& 255)))))] := hD2
  refine lv_iinc (v := 8) (lv' := [(2, .int 8), (0, .ref h0), (1, .int b)]) hx hb d_MM_add4_21 hl (k := 0) rfl (by decide) (by decide) rfl (fun ls hl => ?_)
  refine lv_goto (tgt := 3) hx hb d_MM_add4_24 (by decide) ?_
  refine lv_iload_n hx hb d_MM_add4_3 rfl (lv_at hl 0 rfl) ?_
  refine lv_if_lt (tgt := 27) hx hb d_MM_add4_4 (by decide) (fun c9 => absurd c9 (by decide)) (fun _ => ?_)
  refine lv_aload_n hx hb d_MM_add4_7 rfl (lv_at hl 1 rfl) ?_
  refine va_get (D := D) (ci := 13) (v := .ref n0) (C := R_MM) (T := T_MM) (N := 49) hx hb hg i_MM hown hK hP2 0 rfl rfl 1 (by decide) (hg _ k10_82) (fun _ h9 => h9) hh0_tape d_MM_add4_8 ?_
  refine lv_iload_n hx hb d_MM_add4_11 rfl (lv_at hl 2 rfl) ?_
  refine lv_iload_n hx hb d_MM_add4_12 rfl (lv_at hl 0 rfl) ?_
  refine lv_ishr hx hb d_MM_add4_13 ?_
  refine lv_sipush (v := 255) hx hb d_MM_add4_14 (by decide) ?_
  refine lv_iand hx hb d_MM_add4_17 ?_
  refine zCallv (wc := [(n0, .inr (14, [.ref na, .int 6])), (na, .inl (tA 0, 16, .inl (upd ((upd (f) 4 (((b >>> (24 &&& 31)) &&& 255)))) 5 (((b >>> (16 &&& 31)) &&& 255)))))]) (wr := [(h0, .inr (13, fs))]) hP2 hD2 hS2 hA [1, 2] [0] rfl rfl (by decide) (by decide) (va_runV (As := [.int ((b >>> (8 &&& 31)) &&& 255)]) (rest := []) ⟨hx, hb, hml, hown, hg⟩ (c_MN_add_room l D tA _ n0 na 16 6 (upd ((upd (f) 4 (((b >>> (24 &&& 31)) &&& 255)))) 5 (((b >>> (16 &&& 31)) &&& 255))) ((b >>> (8 &&& 31)) &&& 255) (by decide) (by decide)) (zV 1 hg k11_1 k11_2 k11_3 k1_15 k11_4 rfl rfl (by decide +kernel) ⟨(Nat.le_of_ble_eq_true rfl), (Nat.le_of_ble_eq_true rfl)⟩) (zPreV hh hK hP2 hD2 [1, 2] (by decide) rfl (ci := 14) rfl 0 rfl) rfl rfl hl.1 rfl (lv_room (Nat.le_of_ble_eq_true rfl)) d_MM_add4_18 ⟨(Nat.le_of_ble_eq_true rfl), (Nat.le_of_ble_eq_true rfl)⟩) (fun _ H3 locs3 _ hP3 hD3 hS3 => ?_)
  clear hP2 hD2 hS2
  replace hP3 : va_P D vwCl [(h0, .inr (13, fs)), (n0, .inr (14, [.ref na, .int 7])), (na, .inl (tA 0, 16, .inl (upd ((upd ((upd (f) 4 (((b >>> (24 &&& 31)) &&& 255)))) 5 (((b >>> (16 &&& 31)) &&& 255)))) 6 (((b >>> (8 &&& 31)) &&& 255)))))] _ := hP3
  replace hD3 : va_D A [(h0, .inr (13, fs)), (n0, .inr (14, [.ref na, .int 7])), (na, .inl (tA 0, 16, .inl (upd ((upd ((upd (f) 4 (((b >>> (24 &&& 31)) &&& 255)))) 5 (((b >>> (16 &&& 31)) &&& 255)))) 6 (((b >>> (8 &&& 31)) &&& 255)))))] := hD3
  refine lv_iinc (v := 0) (lv' := [(2, .int 0), (0, .ref h0), (1, .int b)]) hx hb d_MM_add4_21 hl (k := 0) rfl (by decide) (by decide) rfl (fun ls hl => ?_)
  refine lv_goto (tgt := 3) hx hb d_MM_add4_24 (by decide) ?_
  refine lv_iload_n hx hb d_MM_add4_3 rfl (lv_at hl 0 rfl) ?_
  refine lv_if_lt (tgt := 27) hx hb d_MM_add4_4 (by decide) (fun c9 => absurd c9 (by decide)) (fun _ => ?_)
  refine lv_aload_n hx hb d_MM_add4_7 rfl (lv_at hl 1 rfl) ?_
  refine va_get (D := D) (ci := 13) (v := .ref n0) (C := R_MM) (T := T_MM) (N := 49) hx hb hg i_MM hown hK hP3 0 rfl rfl 1 (by decide) (hg _ k10_82) (fun _ h9 => h9) hh0_tape d_MM_add4_8 ?_
  refine lv_iload_n hx hb d_MM_add4_11 rfl (lv_at hl 2 rfl) ?_
  refine lv_iload_n hx hb d_MM_add4_12 rfl (lv_at hl 0 rfl) ?_
  refine lv_ishr hx hb d_MM_add4_13 ?_
  refine lv_sipush (v := 255) hx hb d_MM_add4_14 (by decide) ?_
  refine lv_iand hx hb d_MM_add4_17 ?_
  refine zCallv (wc := [(n0, .inr (14, [.ref na, .int 7])), (na, .inl (tA 0, 16, .inl (upd ((upd ((upd (f) 4 (((b >>> (24 &&& 31)) &&& 255)))) 5 (((b >>> (16 &&& 31)) &&& 255)))) 6 (((b >>> (8 &&& 31)) &&& 255)))))]) (wr := [(h0, .inr (13, fs))]) hP3 hD3 hS3 hA [1, 2] [0] rfl rfl (by decide) (by decide) (va_runV (As := [.int ((b >>> (0 &&& 31)) &&& 255)]) (rest := []) ⟨hx, hb, hml, hown, hg⟩ (c_MN_add_room l D tA _ n0 na 16 7 (upd ((upd ((upd (f) 4 (((b >>> (24 &&& 31)) &&& 255)))) 5 (((b >>> (16 &&& 31)) &&& 255)))) 6 (((b >>> (8 &&& 31)) &&& 255))) ((b >>> (0 &&& 31)) &&& 255) (by decide) (by decide)) (zV 1 hg k11_1 k11_2 k11_3 k1_15 k11_4 rfl rfl (by decide +kernel) ⟨(Nat.le_of_ble_eq_true rfl), (Nat.le_of_ble_eq_true rfl)⟩) (zPreV hh hK hP3 hD3 [1, 2] (by decide) rfl (ci := 14) rfl 0 rfl) rfl rfl hl.1 rfl (lv_room (Nat.le_of_ble_eq_true rfl)) d_MM_add4_18 ⟨(Nat.le_of_ble_eq_true rfl), (Nat.le_of_ble_eq_true rfl)⟩) (fun _ H4 locs4 _ hP4 hD4 hS4 => ?_)
  clear hP3 hD3 hS3
  replace hP4 : va_P D vwCl [(h0, .inr (13, fs)), (n0, .inr (14, [.ref na, .int 8])), (na, .inl (tA 0, 16, .inl (upd ((upd ((upd ((upd (f) 4 (((b >>> (24 &&& 31)) &&& 255)))) 5 (((b >>> (16 &&& 31)) &&& 255)))) 6 (((b >>> (8 &&& 31)) &&& 255)))) 7 (((b >>> (0 &&& 31)) &&& 255)))))] _ := hP4
  replace hD4 : va_D A [(h0, .inr (13, fs)), (n0, .inr (14, [.ref na, .int 8])), (na, .inl (tA 0, 16, .inl (upd ((upd ((upd ((upd (f) 4 (((b >>> (24 &&& 31)) &&& 255)))) 5 (((b >>> (16 &&& 31)) &&& 255)))) 6 (((b >>> (8 &&& 31)) &&& 255)))) 7 (((b >>> (0 &&& 31)) &&& 255)))))] := hD4
  refine lv_iinc (v := (-8)) (lv' := [(2, .int (-8)), (0, .ref h0), (1, .int b)]) hx hb d_MM_add4_21 hl (k := 0) rfl (by decide) (by decide) rfl (fun ls hl => ?_)
  refine lv_goto (tgt := 3) hx hb d_MM_add4_24 (by decide) ?_
  refine lv_iload_n hx hb d_MM_add4_3 rfl (lv_at hl 0 rfl) ?_
  refine lv_if_lt (tgt := 27) hx hb d_MM_add4_4 (by decide) (fun _ => ?_) (fun c9 => absurd (by decide) c9)
  exact zVret (post := fun _ : Unit => True) (W1 := fun _ => [(h0, .inr (13, fs)), (n0, .inr (14, [.ref na, .int 8])), (na, .inl (tA 0, 16, .inl (upd ((upd ((upd ((upd (f) 4 (((b >>> (24 &&& 31)) &&& 255)))) 5 (((b >>> (16 &&& 31)) &&& 255)))) 6 (((b >>> (8 &&& 31)) &&& 255)))) 7 (((b >>> (0 &&& 31)) &&& 255)))))]) hx hb hr hlocks hP4 hD4 hS4 () trivial rfl d_MM_add4_27
set_option maxHeartbeats 4000000 in
set_option maxRecDepth 100000 in
theorem c_MM_add4_at8 (l : Launch) (D : va_G) (tA : Nat → ClassId) (sz : Nat) (h0 : Nat) (n0 : Nat) (na : Nat) (fs : List Value) (f : Nat → Int32) (b : Int32) (hh0_tape : fs[1]? = some (.ref n0)) : zMv l ({ cls := "ChanceArenaModel", name := "add4", desc := "(I)V" } : Jvm.MethodName) (zW (Jvm.Cond.code ({ cls := "ChanceArenaModel", name := "add4", desc := "(I)V" } : Jvm.MethodName) prog_15_method_4_code (3 : Nat) (Option.none : Option Jvm.ClassFile.FieldType))) { frames := 1, cells := 0, slots := 0, locals := 23 } [.ref h0, .int b] D tA [(h0, .inr (13, fs)), (n0, .inr (14, [.ref na, .int 8])), (na, .inl (tA 0, 16, .inl (f)))] sz (fun _ : Unit => True) (fun _ => [(h0, .inr (13, fs)), (n0, .inr (14, [.ref na, .int 12])), (na, .inl (tA 0, 16, .inl (upd ((upd ((upd ((upd (f) 8 (((b >>> (24 &&& 31)) &&& 255)))) 9 (((b >>> (16 &&& 31)) &&& 255)))) 10 (((b >>> (8 &&& 31)) &&& 255)))) 11 (((b >>> (0 &&& 31)) &&& 255)))))]) 0 0 := by
  refine zOpen (fun A => va_Qv (fun _ : Unit => True) (zPost D A (fun _ => [(h0, .inr (13, fs)), (n0, .inr (14, [.ref na, .int 12])), (na, .inl (tA 0, 16, .inl (upd ((upd ((upd ((upd (f) 8 (((b >>> (24 &&& 31)) &&& 255)))) 9 (((b >>> (16 &&& 31)) &&& 255)))) 10 (((b >>> (8 &&& 31)) &&& 255)))) 11 (((b >>> (0 &&& 31)) &&& 255)))))])) A) (lv := [(0, .ref h0), (1, .int b)]) (by decide) rfl (Nat.le_of_ble_eq_true rfl) rfl ?_
  intro p e s m below meth c A ls hx hb hr hml hh hg hown hlocks hnm hK hA hP hD0 hAw hS hl
  have hD := zD hD0 hAw
  refine lv_bipush (v := 24) hx hb d_MM_add4_0 (by decide) ?_
  refine lv_istore_n (lv' := [(2, .int 24), (0, .ref h0), (1, .int b)]) hx hb d_MM_add4_2 rfl hl (by decide) rfl (fun ls hl => ?_)
  refine lv_iload_n hx hb d_MM_add4_3 rfl (lv_at hl 0 rfl) ?_
  refine lv_if_lt (tgt := 27) hx hb d_MM_add4_4 (by decide) (fun c9 => absurd c9 (by decide)) (fun _ => ?_)
  refine lv_aload_n hx hb d_MM_add4_7 rfl (lv_at hl 1 rfl) ?_
  refine va_get (D := D) (ci := 13) (v := .ref n0) (C := R_MM) (T := T_MM) (N := 49) hx hb hg i_MM hown hK hP 0 rfl rfl 1 (by decide) (hg _ k10_82) (fun _ h9 => h9) hh0_tape d_MM_add4_8 ?_
  refine lv_iload_n hx hb d_MM_add4_11 rfl (lv_at hl 2 rfl) ?_
  refine lv_iload_n hx hb d_MM_add4_12 rfl (lv_at hl 0 rfl) ?_
  refine lv_ishr hx hb d_MM_add4_13 ?_
  refine lv_sipush (v := 255) hx hb d_MM_add4_14 (by decide) ?_
  refine lv_iand hx hb d_MM_add4_17 ?_
  refine zCallv (wc := [(n0, .inr (14, [.ref na, .int 8])), (na, .inl (tA 0, 16, .inl (f)))]) (wr := [(h0, .inr (13, fs))]) hP hD hS hA [1, 2] [0] rfl rfl (by decide) (by decide) (va_runV (As := [.int ((b >>> (24 &&& 31)) &&& 255)]) (rest := []) ⟨hx, hb, hml, hown, hg⟩ (c_MN_add_room l D tA _ n0 na 16 8 f ((b >>> (24 &&& 31)) &&& 255) (by decide) (by decide)) (zV 1 hg k11_1 k11_2 k11_3 k1_15 k11_4 rfl rfl (by decide +kernel) ⟨(Nat.le_of_ble_eq_true rfl), (Nat.le_of_ble_eq_true rfl)⟩) (zPreV hh hK hP hD [1, 2] (by decide) rfl (ci := 14) rfl 0 rfl) rfl rfl hl.1 rfl (lv_room (Nat.le_of_ble_eq_true rfl)) d_MM_add4_18 ⟨(Nat.le_of_ble_eq_true rfl), (Nat.le_of_ble_eq_true rfl)⟩) (fun _ H1 locs1 _ hP1 hD1 hS1 => ?_)
  clear hP hD hS
  replace hP1 : va_P D vwCl [(h0, .inr (13, fs)), (n0, .inr (14, [.ref na, .int 9])), (na, .inl (tA 0, 16, .inl (upd (f) 8 (((b >>> (24 &&& 31)) &&& 255)))))] _ := hP1
  replace hD1 : va_D A [(h0, .inr (13, fs)), (n0, .inr (14, [.ref na, .int 9])), (na, .inl (tA 0, 16, .inl (upd (f) 8 (((b >>> (24 &&& 31)) &&& 255)))))] := hD1
  refine lv_iinc (v := 16) (lv' := [(2, .int 16), (0, .ref h0), (1, .int b)]) hx hb d_MM_add4_21 hl (k := 0) rfl (by decide) (by decide) rfl (fun ls hl => ?_)
  refine lv_goto (tgt := 3) hx hb d_MM_add4_24 (by decide) ?_
  refine lv_iload_n hx hb d_MM_add4_3 rfl (lv_at hl 0 rfl) ?_
  refine lv_if_lt (tgt := 27) hx hb d_MM_add4_4 (by decide) (fun c9 => absurd c9 (by decide)) (fun _ => ?_)
  refine lv_aload_n hx hb d_MM_add4_7 rfl (lv_at hl 1 rfl) ?_
  refine va_get (D := D) (ci := 13) (v := .ref n0) (C := R_MM) (T := T_MM) (N := 49) hx hb hg i_MM hown hK hP1 0 rfl rfl 1 (by decide) (hg _ k10_82) (fun _ h9 => h9) hh0_tape d_MM_add4_8 ?_
  refine lv_iload_n hx hb d_MM_add4_11 rfl (lv_at hl 2 rfl) ?_
  refine lv_iload_n hx hb d_MM_add4_12 rfl (lv_at hl 0 rfl) ?_
  refine lv_ishr hx hb d_MM_add4_13 ?_
  refine lv_sipush (v := 255) hx hb d_MM_add4_14 (by decide) ?_
  refine lv_iand hx hb d_MM_add4_17 ?_
  refine zCallv (wc := [(n0, .inr (14, [.ref na, .int 9])), (na, .inl (tA 0, 16, .inl (upd (f) 8 (((b >>> (24 &&& 31)) &&& 255)))))]) (wr := [(h0, .inr (13, fs))]) hP1 hD1 hS1 hA [1, 2] [0] rfl rfl (by decide) (by decide) (va_runV (As := [.int ((b >>> (16 &&& 31)) &&& 255)]) (rest := []) ⟨hx, hb, hml, hown, hg⟩ (c_MN_add_room l D tA _ n0 na 16 9 (upd (f) 8 (((b >>> (24 &&& 31)) &&& 255))) ((b >>> (16 &&& 31)) &&& 255) (by decide) (by decide)) (zV 1 hg k11_1 k11_2 k11_3 k1_15 k11_4 rfl rfl (by decide +kernel) ⟨(Nat.le_of_ble_eq_true rfl), (Nat.le_of_ble_eq_true rfl)⟩) (zPreV hh hK hP1 hD1 [1, 2] (by decide) rfl (ci := 14) rfl 0 rfl) rfl rfl hl.1 rfl (lv_room (Nat.le_of_ble_eq_true rfl)) d_MM_add4_18 ⟨(Nat.le_of_ble_eq_true rfl), (Nat.le_of_ble_eq_true rfl)⟩) (fun _ H2 locs2 _ hP2 hD2 hS2 => ?_)
  clear hP1 hD1 hS1
  replace hP2 : va_P D vwCl [(h0, .inr (13, fs)), (n0, .inr (14, [.ref na, .int 10])), (na, .inl (tA 0, 16, .inl (upd ((upd (f) 8 (((b >>> (24 &&& 31)) &&& 255)))) 9 (((b >>> (16 &&& 31)) &&& 255)))))] _ := hP2
  replace hD2 : va_D A [(h0, .inr (13, fs)), (n0, .inr (14, [.ref na, .int 10])), (na, .inl (tA 0, 16, .inl (upd ((upd (f) 8 (((b >>> (24 &&& 31)) &&& 255)))) 9 (((b >>> (16 &&& 31)) &&& 255)))))] := hD2
  refine lv_iinc (v := 8) (lv' := [(2, .int 8), (0, .ref h0), (1, .int b)]) hx hb d_MM_add4_21 hl (k := 0) rfl (by decide) (by decide) rfl (fun ls hl => ?_)
  refine lv_goto (tgt := 3) hx hb d_MM_add4_24 (by decide) ?_
  refine lv_iload_n hx hb d_MM_add4_3 rfl (lv_at hl 0 rfl) ?_
  refine lv_if_lt (tgt := 27) hx hb d_MM_add4_4 (by decide) (fun c9 => absurd c9 (by decide)) (fun _ => ?_)
  refine lv_aload_n hx hb d_MM_add4_7 rfl (lv_at hl 1 rfl) ?_
  refine va_get (D := D) (ci := 13) (v := .ref n0) (C := R_MM) (T := T_MM) (N := 49) hx hb hg i_MM hown hK hP2 0 rfl rfl 1 (by decide) (hg _ k10_82) (fun _ h9 => h9) hh0_tape d_MM_add4_8 ?_
  refine lv_iload_n hx hb d_MM_add4_11 rfl (lv_at hl 2 rfl) ?_
  refine lv_iload_n hx hb d_MM_add4_12 rfl (lv_at hl 0 rfl) ?_
  refine lv_ishr hx hb d_MM_add4_13 ?_
  refine lv_sipush (v := 255) hx hb d_MM_add4_14 (by decide) ?_
  refine lv_iand hx hb d_MM_add4_17 ?_
  refine zCallv (wc := [(n0, .inr (14, [.ref na, .int 10])), (na, .inl (tA 0, 16, .inl (upd ((upd (f) 8 (((b >>> (24 &&& 31)) &&& 255)))) 9 (((b >>> (16 &&& 31)) &&& 255)))))]) (wr := [(h0, .inr (13, fs))]) hP2 hD2 hS2 hA [1, 2] [0] rfl rfl (by decide) (by decide) (va_runV (As := [.int ((b >>> (8 &&& 31)) &&& 255)]) (rest := []) ⟨hx, hb, hml, hown, hg⟩ (c_MN_add_room l D tA _ n0 na 16 10 (upd ((upd (f) 8 (((b >>> (24 &&& 31)) &&& 255)))) 9 (((b >>> (16 &&& 31)) &&& 255))) ((b >>> (8 &&& 31)) &&& 255) (by decide) (by decide)) (zV 1 hg k11_1 k11_2 k11_3 k1_15 k11_4 rfl rfl (by decide +kernel) ⟨(Nat.le_of_ble_eq_true rfl), (Nat.le_of_ble_eq_true rfl)⟩) (zPreV hh hK hP2 hD2 [1, 2] (by decide) rfl (ci := 14) rfl 0 rfl) rfl rfl hl.1 rfl (lv_room (Nat.le_of_ble_eq_true rfl)) d_MM_add4_18 ⟨(Nat.le_of_ble_eq_true rfl), (Nat.le_of_ble_eq_true rfl)⟩) (fun _ H3 locs3 _ hP3 hD3 hS3 => ?_)
  clear hP2 hD2 hS2
  replace hP3 : va_P D vwCl [(h0, .inr (13, fs)), (n0, .inr (14, [.ref na, .int 11])), (na, .inl (tA 0, 16, .inl (upd ((upd ((upd (f) 8 (((b >>> (24 &&& 31)) &&& 255)))) 9 (((b >>> (16 &&& 31)) &&& 255)))) 10 (((b >>> (8 &&& 31)) &&& 255)))))] _ := hP3
  replace hD3 : va_D A [(h0, .inr (13, fs)), (n0, .inr (14, [.ref na, .int 11])), (na, .inl (tA 0, 16, .inl (upd ((upd ((upd (f) 8 (((b >>> (24 &&& 31)) &&& 255)))) 9 (((b >>> (16 &&& 31)) &&& 255)))) 10 (((b >>> (8 &&& 31)) &&& 255)))))] := hD3
  refine lv_iinc (v := 0) (lv' := [(2, .int 0), (0, .ref h0), (1, .int b)]) hx hb d_MM_add4_21 hl (k := 0) rfl (by decide) (by decide) rfl (fun ls hl => ?_)
  refine lv_goto (tgt := 3) hx hb d_MM_add4_24 (by decide) ?_
  refine lv_iload_n hx hb d_MM_add4_3 rfl (lv_at hl 0 rfl) ?_
  refine lv_if_lt (tgt := 27) hx hb d_MM_add4_4 (by decide) (fun c9 => absurd c9 (by decide)) (fun _ => ?_)
  refine lv_aload_n hx hb d_MM_add4_7 rfl (lv_at hl 1 rfl) ?_
  refine va_get (D := D) (ci := 13) (v := .ref n0) (C := R_MM) (T := T_MM) (N := 49) hx hb hg i_MM hown hK hP3 0 rfl rfl 1 (by decide) (hg _ k10_82) (fun _ h9 => h9) hh0_tape d_MM_add4_8 ?_
  refine lv_iload_n hx hb d_MM_add4_11 rfl (lv_at hl 2 rfl) ?_
  refine lv_iload_n hx hb d_MM_add4_12 rfl (lv_at hl 0 rfl) ?_
  refine lv_ishr hx hb d_MM_add4_13 ?_
  refine lv_sipush (v := 255) hx hb d_MM_add4_14 (by decide) ?_
  refine lv_iand hx hb d_MM_add4_17 ?_
  refine zCallv (wc := [(n0, .inr (14, [.ref na, .int 11])), (na, .inl (tA 0, 16, .inl (upd ((upd ((upd (f) 8 (((b >>> (24 &&& 31)) &&& 255)))) 9 (((b >>> (16 &&& 31)) &&& 255)))) 10 (((b >>> (8 &&& 31)) &&& 255)))))]) (wr := [(h0, .inr (13, fs))]) hP3 hD3 hS3 hA [1, 2] [0] rfl rfl (by decide) (by decide) (va_runV (As := [.int ((b >>> (0 &&& 31)) &&& 255)]) (rest := []) ⟨hx, hb, hml, hown, hg⟩ (c_MN_add_room l D tA _ n0 na 16 11 (upd ((upd ((upd (f) 8 (((b >>> (24 &&& 31)) &&& 255)))) 9 (((b >>> (16 &&& 31)) &&& 255)))) 10 (((b >>> (8 &&& 31)) &&& 255))) ((b >>> (0 &&& 31)) &&& 255) (by decide) (by decide)) (zV 1 hg k11_1 k11_2 k11_3 k1_15 k11_4 rfl rfl (by decide +kernel) ⟨(Nat.le_of_ble_eq_true rfl), (Nat.le_of_ble_eq_true rfl)⟩) (zPreV hh hK hP3 hD3 [1, 2] (by decide) rfl (ci := 14) rfl 0 rfl) rfl rfl hl.1 rfl (lv_room (Nat.le_of_ble_eq_true rfl)) d_MM_add4_18 ⟨(Nat.le_of_ble_eq_true rfl), (Nat.le_of_ble_eq_true rfl)⟩) (fun _ H4 locs4 _ hP4 hD4 hS4 => ?_)
  clear hP3 hD3 hS3
  replace hP4 : va_P D vwCl [(h0, .inr (13, fs)), (n0, .inr (14, [.ref na, .int 12])), (na, .inl (tA 0, 16, .inl (upd ((upd ((upd ((upd (f) 8 (((b >>> (24 &&& 31)) &&& 255)))) 9 (((b >>> (16 &&& 31)) &&& 255)))) 10 (((b >>> (8 &&& 31)) &&& 255)))) 11 (((b >>> (0 &&& 31)) &&& 255)))))] _ := hP4
  replace hD4 : va_D A [(h0, .inr (13, fs)), (n0, .inr (14, [.ref na, .int 12])), (na, .inl (tA 0, 16, .inl (upd ((upd ((upd ((upd (f) 8 (((b >>> (24 &&& 31)) &&& 255)))) 9 (((b >>> (16 &&& 31)) &&& 255)))) 10 (((b >>> (8 &&& 31)) &&& 255)))) 11 (((b >>> (0 &&& 31)) &&& 255)))))] := hD4
  refine lv_iinc (v := (-8)) (lv' := [(2, .int (-8)), (0, .ref h0), (1, .int b)]) hx hb d_MM_add4_21 hl (k := 0) rfl (by decide) (by decide) rfl (fun ls hl => ?_)
  refine lv_goto (tgt := 3) hx hb d_MM_add4_24 (by decide) ?_
  refine lv_iload_n hx hb d_MM_add4_3 rfl (lv_at hl 0 rfl) ?_
  refine lv_if_lt (tgt := 27) hx hb d_MM_add4_4 (by decide) (fun _ => ?_) (fun c9 => absurd (by decide) c9)
  exact zVret (post := fun _ : Unit => True) (W1 := fun _ => [(h0, .inr (13, fs)), (n0, .inr (14, [.ref na, .int 12])), (na, .inl (tA 0, 16, .inl (upd ((upd ((upd ((upd (f) 8 (((b >>> (24 &&& 31)) &&& 255)))) 9 (((b >>> (16 &&& 31)) &&& 255)))) 10 (((b >>> (8 &&& 31)) &&& 255)))) 11 (((b >>> (0 &&& 31)) &&& 255)))))]) hx hb hr hlocks hP4 hD4 hS4 () trivial rfl d_MM_add4_27
set_option maxHeartbeats 4000000 in
set_option maxRecDepth 100000 in
theorem c_MM_add4_at12 (l : Launch) (D : va_G) (tA : Nat → ClassId) (sz : Nat) (h0 : Nat) (n0 : Nat) (na : Nat) (fs : List Value) (f : Nat → Int32) (b : Int32) (hh0_tape : fs[1]? = some (.ref n0)) : zMv l ({ cls := "ChanceArenaModel", name := "add4", desc := "(I)V" } : Jvm.MethodName) (zW (Jvm.Cond.code ({ cls := "ChanceArenaModel", name := "add4", desc := "(I)V" } : Jvm.MethodName) prog_15_method_4_code (3 : Nat) (Option.none : Option Jvm.ClassFile.FieldType))) { frames := 1, cells := 0, slots := 0, locals := 23 } [.ref h0, .int b] D tA [(h0, .inr (13, fs)), (n0, .inr (14, [.ref na, .int 12])), (na, .inl (tA 0, 16, .inl (f)))] sz (fun _ : Unit => True) (fun _ => [(h0, .inr (13, fs)), (n0, .inr (14, [.ref na, .int 16])), (na, .inl (tA 0, 16, .inl (upd ((upd ((upd ((upd (f) 12 (((b >>> (24 &&& 31)) &&& 255)))) 13 (((b >>> (16 &&& 31)) &&& 255)))) 14 (((b >>> (8 &&& 31)) &&& 255)))) 15 (((b >>> (0 &&& 31)) &&& 255)))))]) 0 0 := by
  refine zOpen (fun A => va_Qv (fun _ : Unit => True) (zPost D A (fun _ => [(h0, .inr (13, fs)), (n0, .inr (14, [.ref na, .int 16])), (na, .inl (tA 0, 16, .inl (upd ((upd ((upd ((upd (f) 12 (((b >>> (24 &&& 31)) &&& 255)))) 13 (((b >>> (16 &&& 31)) &&& 255)))) 14 (((b >>> (8 &&& 31)) &&& 255)))) 15 (((b >>> (0 &&& 31)) &&& 255)))))])) A) (lv := [(0, .ref h0), (1, .int b)]) (by decide) rfl (Nat.le_of_ble_eq_true rfl) rfl ?_
  intro p e s m below meth c A ls hx hb hr hml hh hg hown hlocks hnm hK hA hP hD0 hAw hS hl
  have hD := zD hD0 hAw
  refine lv_bipush (v := 24) hx hb d_MM_add4_0 (by decide) ?_
  refine lv_istore_n (lv' := [(2, .int 24), (0, .ref h0), (1, .int b)]) hx hb d_MM_add4_2 rfl hl (by decide) rfl (fun ls hl => ?_)
  refine lv_iload_n hx hb d_MM_add4_3 rfl (lv_at hl 0 rfl) ?_
  refine lv_if_lt (tgt := 27) hx hb d_MM_add4_4 (by decide) (fun c9 => absurd c9 (by decide)) (fun _ => ?_)
  refine lv_aload_n hx hb d_MM_add4_7 rfl (lv_at hl 1 rfl) ?_
  refine va_get (D := D) (ci := 13) (v := .ref n0) (C := R_MM) (T := T_MM) (N := 49) hx hb hg i_MM hown hK hP 0 rfl rfl 1 (by decide) (hg _ k10_82) (fun _ h9 => h9) hh0_tape d_MM_add4_8 ?_
  refine lv_iload_n hx hb d_MM_add4_11 rfl (lv_at hl 2 rfl) ?_
  refine lv_iload_n hx hb d_MM_add4_12 rfl (lv_at hl 0 rfl) ?_
  refine lv_ishr hx hb d_MM_add4_13 ?_
  refine lv_sipush (v := 255) hx hb d_MM_add4_14 (by decide) ?_
  refine lv_iand hx hb d_MM_add4_17 ?_
  refine zCallv (wc := [(n0, .inr (14, [.ref na, .int 12])), (na, .inl (tA 0, 16, .inl (f)))]) (wr := [(h0, .inr (13, fs))]) hP hD hS hA [1, 2] [0] rfl rfl (by decide) (by decide) (va_runV (As := [.int ((b >>> (24 &&& 31)) &&& 255)]) (rest := []) ⟨hx, hb, hml, hown, hg⟩ (c_MN_add_room l D tA _ n0 na 16 12 f ((b >>> (24 &&& 31)) &&& 255) (by decide) (by decide)) (zV 1 hg k11_1 k11_2 k11_3 k1_15 k11_4 rfl rfl (by decide +kernel) ⟨(Nat.le_of_ble_eq_true rfl), (Nat.le_of_ble_eq_true rfl)⟩) (zPreV hh hK hP hD [1, 2] (by decide) rfl (ci := 14) rfl 0 rfl) rfl rfl hl.1 rfl (lv_room (Nat.le_of_ble_eq_true rfl)) d_MM_add4_18 ⟨(Nat.le_of_ble_eq_true rfl), (Nat.le_of_ble_eq_true rfl)⟩) (fun _ H1 locs1 _ hP1 hD1 hS1 => ?_)
  clear hP hD hS
  replace hP1 : va_P D vwCl [(h0, .inr (13, fs)), (n0, .inr (14, [.ref na, .int 13])), (na, .inl (tA 0, 16, .inl (upd (f) 12 (((b >>> (24 &&& 31)) &&& 255)))))] _ := hP1
  replace hD1 : va_D A [(h0, .inr (13, fs)), (n0, .inr (14, [.ref na, .int 13])), (na, .inl (tA 0, 16, .inl (upd (f) 12 (((b >>> (24 &&& 31)) &&& 255)))))] := hD1
  refine lv_iinc (v := 16) (lv' := [(2, .int 16), (0, .ref h0), (1, .int b)]) hx hb d_MM_add4_21 hl (k := 0) rfl (by decide) (by decide) rfl (fun ls hl => ?_)
  refine lv_goto (tgt := 3) hx hb d_MM_add4_24 (by decide) ?_
  refine lv_iload_n hx hb d_MM_add4_3 rfl (lv_at hl 0 rfl) ?_
  refine lv_if_lt (tgt := 27) hx hb d_MM_add4_4 (by decide) (fun c9 => absurd c9 (by decide)) (fun _ => ?_)
  refine lv_aload_n hx hb d_MM_add4_7 rfl (lv_at hl 1 rfl) ?_
  refine va_get (D := D) (ci := 13) (v := .ref n0) (C := R_MM) (T := T_MM) (N := 49) hx hb hg i_MM hown hK hP1 0 rfl rfl 1 (by decide) (hg _ k10_82) (fun _ h9 => h9) hh0_tape d_MM_add4_8 ?_
  refine lv_iload_n hx hb d_MM_add4_11 rfl (lv_at hl 2 rfl) ?_
  refine lv_iload_n hx hb d_MM_add4_12 rfl (lv_at hl 0 rfl) ?_
  refine lv_ishr hx hb d_MM_add4_13 ?_
  refine lv_sipush (v := 255) hx hb d_MM_add4_14 (by decide) ?_
  refine lv_iand hx hb d_MM_add4_17 ?_
  refine zCallv (wc := [(n0, .inr (14, [.ref na, .int 13])), (na, .inl (tA 0, 16, .inl (upd (f) 12 (((b >>> (24 &&& 31)) &&& 255)))))]) (wr := [(h0, .inr (13, fs))]) hP1 hD1 hS1 hA [1, 2] [0] rfl rfl (by decide) (by decide) (va_runV (As := [.int ((b >>> (16 &&& 31)) &&& 255)]) (rest := []) ⟨hx, hb, hml, hown, hg⟩ (c_MN_add_room l D tA _ n0 na 16 13 (upd (f) 12 (((b >>> (24 &&& 31)) &&& 255))) ((b >>> (16 &&& 31)) &&& 255) (by decide) (by decide)) (zV 1 hg k11_1 k11_2 k11_3 k1_15 k11_4 rfl rfl (by decide +kernel) ⟨(Nat.le_of_ble_eq_true rfl), (Nat.le_of_ble_eq_true rfl)⟩) (zPreV hh hK hP1 hD1 [1, 2] (by decide) rfl (ci := 14) rfl 0 rfl) rfl rfl hl.1 rfl (lv_room (Nat.le_of_ble_eq_true rfl)) d_MM_add4_18 ⟨(Nat.le_of_ble_eq_true rfl), (Nat.le_of_ble_eq_true rfl)⟩) (fun _ H2 locs2 _ hP2 hD2 hS2 => ?_)
  clear hP1 hD1 hS1
  replace hP2 : va_P D vwCl [(h0, .inr (13, fs)), (n0, .inr (14, [.ref na, .int 14])), (na, .inl (tA 0, 16, .inl (upd ((upd (f) 12 (((b >>> (24 &&& 31)) &&& 255)))) 13 (((b >>> (16 &&& 31)) &&& 255)))))] _ := hP2
  replace hD2 : va_D A [(h0, .inr (13, fs)), (n0, .inr (14, [.ref na, .int 14])), (na, .inl (tA 0, 16, .inl (upd ((upd (f) 12 (((b >>> (24 &&& 31)) &&& 255)))) 13 (((b >>> (16 &&& 31)) &&& 255)))))] := hD2
  refine lv_iinc (v := 8) (lv' := [(2, .int 8), (0, .ref h0), (1, .int b)]) hx hb d_MM_add4_21 hl (k := 0) rfl (by decide) (by decide) rfl (fun ls hl => ?_)
  refine lv_goto (tgt := 3) hx hb d_MM_add4_24 (by decide) ?_
  refine lv_iload_n hx hb d_MM_add4_3 rfl (lv_at hl 0 rfl) ?_
  refine lv_if_lt (tgt := 27) hx hb d_MM_add4_4 (by decide) (fun c9 => absurd c9 (by decide)) (fun _ => ?_)
  refine lv_aload_n hx hb d_MM_add4_7 rfl (lv_at hl 1 rfl) ?_
  refine va_get (D := D) (ci := 13) (v := .ref n0) (C := R_MM) (T := T_MM) (N := 49) hx hb hg i_MM hown hK hP2 0 rfl rfl 1 (by decide) (hg _ k10_82) (fun _ h9 => h9) hh0_tape d_MM_add4_8 ?_
  refine lv_iload_n hx hb d_MM_add4_11 rfl (lv_at hl 2 rfl) ?_
  refine lv_iload_n hx hb d_MM_add4_12 rfl (lv_at hl 0 rfl) ?_
  refine lv_ishr hx hb d_MM_add4_13 ?_
  refine lv_sipush (v := 255) hx hb d_MM_add4_14 (by decide) ?_
  refine lv_iand hx hb d_MM_add4_17 ?_
  refine zCallv (wc := [(n0, .inr (14, [.ref na, .int 14])), (na, .inl (tA 0, 16, .inl (upd ((upd (f) 12 (((b >>> (24 &&& 31)) &&& 255)))) 13 (((b >>> (16 &&& 31)) &&& 255)))))]) (wr := [(h0, .inr (13, fs))]) hP2 hD2 hS2 hA [1, 2] [0] rfl rfl (by decide) (by decide) (va_runV (As := [.int ((b >>> (8 &&& 31)) &&& 255)]) (rest := []) ⟨hx, hb, hml, hown, hg⟩ (c_MN_add_room l D tA _ n0 na 16 14 (upd ((upd (f) 12 (((b >>> (24 &&& 31)) &&& 255)))) 13 (((b >>> (16 &&& 31)) &&& 255))) ((b >>> (8 &&& 31)) &&& 255) (by decide) (by decide)) (zV 1 hg k11_1 k11_2 k11_3 k1_15 k11_4 rfl rfl (by decide +kernel) ⟨(Nat.le_of_ble_eq_true rfl), (Nat.le_of_ble_eq_true rfl)⟩) (zPreV hh hK hP2 hD2 [1, 2] (by decide) rfl (ci := 14) rfl 0 rfl) rfl rfl hl.1 rfl (lv_room (Nat.le_of_ble_eq_true rfl)) d_MM_add4_18 ⟨(Nat.le_of_ble_eq_true rfl), (Nat.le_of_ble_eq_true rfl)⟩) (fun _ H3 locs3 _ hP3 hD3 hS3 => ?_)
  clear hP2 hD2 hS2
  replace hP3 : va_P D vwCl [(h0, .inr (13, fs)), (n0, .inr (14, [.ref na, .int 15])), (na, .inl (tA 0, 16, .inl (upd ((upd ((upd (f) 12 (((b >>> (24 &&& 31)) &&& 255)))) 13 (((b >>> (16 &&& 31)) &&& 255)))) 14 (((b >>> (8 &&& 31)) &&& 255)))))] _ := hP3
  replace hD3 : va_D A [(h0, .inr (13, fs)), (n0, .inr (14, [.ref na, .int 15])), (na, .inl (tA 0, 16, .inl (upd ((upd ((upd (f) 12 (((b >>> (24 &&& 31)) &&& 255)))) 13 (((b >>> (16 &&& 31)) &&& 255)))) 14 (((b >>> (8 &&& 31)) &&& 255)))))] := hD3
  refine lv_iinc (v := 0) (lv' := [(2, .int 0), (0, .ref h0), (1, .int b)]) hx hb d_MM_add4_21 hl (k := 0) rfl (by decide) (by decide) rfl (fun ls hl => ?_)
  refine lv_goto (tgt := 3) hx hb d_MM_add4_24 (by decide) ?_
  refine lv_iload_n hx hb d_MM_add4_3 rfl (lv_at hl 0 rfl) ?_
  refine lv_if_lt (tgt := 27) hx hb d_MM_add4_4 (by decide) (fun c9 => absurd c9 (by decide)) (fun _ => ?_)
  refine lv_aload_n hx hb d_MM_add4_7 rfl (lv_at hl 1 rfl) ?_
  refine va_get (D := D) (ci := 13) (v := .ref n0) (C := R_MM) (T := T_MM) (N := 49) hx hb hg i_MM hown hK hP3 0 rfl rfl 1 (by decide) (hg _ k10_82) (fun _ h9 => h9) hh0_tape d_MM_add4_8 ?_
  refine lv_iload_n hx hb d_MM_add4_11 rfl (lv_at hl 2 rfl) ?_
  refine lv_iload_n hx hb d_MM_add4_12 rfl (lv_at hl 0 rfl) ?_
  refine lv_ishr hx hb d_MM_add4_13 ?_
  refine lv_sipush (v := 255) hx hb d_MM_add4_14 (by decide) ?_
  refine lv_iand hx hb d_MM_add4_17 ?_
  refine zCallv (wc := [(n0, .inr (14, [.ref na, .int 15])), (na, .inl (tA 0, 16, .inl (upd ((upd ((upd (f) 12 (((b >>> (24 &&& 31)) &&& 255)))) 13 (((b >>> (16 &&& 31)) &&& 255)))) 14 (((b >>> (8 &&& 31)) &&& 255)))))]) (wr := [(h0, .inr (13, fs))]) hP3 hD3 hS3 hA [1, 2] [0] rfl rfl (by decide) (by decide) (va_runV (As := [.int ((b >>> (0 &&& 31)) &&& 255)]) (rest := []) ⟨hx, hb, hml, hown, hg⟩ (c_MN_add_room l D tA _ n0 na 16 15 (upd ((upd ((upd (f) 12 (((b >>> (24 &&& 31)) &&& 255)))) 13 (((b >>> (16 &&& 31)) &&& 255)))) 14 (((b >>> (8 &&& 31)) &&& 255))) ((b >>> (0 &&& 31)) &&& 255) (by decide) (by decide)) (zV 1 hg k11_1 k11_2 k11_3 k1_15 k11_4 rfl rfl (by decide +kernel) ⟨(Nat.le_of_ble_eq_true rfl), (Nat.le_of_ble_eq_true rfl)⟩) (zPreV hh hK hP3 hD3 [1, 2] (by decide) rfl (ci := 14) rfl 0 rfl) rfl rfl hl.1 rfl (lv_room (Nat.le_of_ble_eq_true rfl)) d_MM_add4_18 ⟨(Nat.le_of_ble_eq_true rfl), (Nat.le_of_ble_eq_true rfl)⟩) (fun _ H4 locs4 _ hP4 hD4 hS4 => ?_)
  clear hP3 hD3 hS3
  replace hP4 : va_P D vwCl [(h0, .inr (13, fs)), (n0, .inr (14, [.ref na, .int 16])), (na, .inl (tA 0, 16, .inl (upd ((upd ((upd ((upd (f) 12 (((b >>> (24 &&& 31)) &&& 255)))) 13 (((b >>> (16 &&& 31)) &&& 255)))) 14 (((b >>> (8 &&& 31)) &&& 255)))) 15 (((b >>> (0 &&& 31)) &&& 255)))))] _ := hP4
  replace hD4 : va_D A [(h0, .inr (13, fs)), (n0, .inr (14, [.ref na, .int 16])), (na, .inl (tA 0, 16, .inl (upd ((upd ((upd ((upd (f) 12 (((b >>> (24 &&& 31)) &&& 255)))) 13 (((b >>> (16 &&& 31)) &&& 255)))) 14 (((b >>> (8 &&& 31)) &&& 255)))) 15 (((b >>> (0 &&& 31)) &&& 255)))))] := hD4
  refine lv_iinc (v := (-8)) (lv' := [(2, .int (-8)), (0, .ref h0), (1, .int b)]) hx hb d_MM_add4_21 hl (k := 0) rfl (by decide) (by decide) rfl (fun ls hl => ?_)
  refine lv_goto (tgt := 3) hx hb d_MM_add4_24 (by decide) ?_
  refine lv_iload_n hx hb d_MM_add4_3 rfl (lv_at hl 0 rfl) ?_
  refine lv_if_lt (tgt := 27) hx hb d_MM_add4_4 (by decide) (fun _ => ?_) (fun c9 => absurd (by decide) c9)
  exact zVret (post := fun _ : Unit => True) (W1 := fun _ => [(h0, .inr (13, fs)), (n0, .inr (14, [.ref na, .int 16])), (na, .inl (tA 0, 16, .inl (upd ((upd ((upd ((upd (f) 12 (((b >>> (24 &&& 31)) &&& 255)))) 13 (((b >>> (16 &&& 31)) &&& 255)))) 14 (((b >>> (8 &&& 31)) &&& 255)))) 15 (((b >>> (0 &&& 31)) &&& 255)))))]) hx hb hr hlocks hP4 hD4 hS4 () trivial rfl d_MM_add4_27
set_option maxHeartbeats 4000000 in
set_option maxRecDepth 100000 in
theorem c_MM_add4_at16 (l : Launch) (D : va_G) (tA : Nat → ClassId) (sz : Nat) (h0 : Nat) (n0 : Nat) (na : Nat) (fs : List Value) (f : Nat → Int32) (b : Int32) (hh0_tape : fs[1]? = some (.ref n0)) : zMv l ({ cls := "ChanceArenaModel", name := "add4", desc := "(I)V" } : Jvm.MethodName) (zW (Jvm.Cond.code ({ cls := "ChanceArenaModel", name := "add4", desc := "(I)V" } : Jvm.MethodName) prog_15_method_4_code (3 : Nat) (Option.none : Option Jvm.ClassFile.FieldType))) { frames := 1, cells := 1, slots := 32, locals := 23 } [.ref h0, .int b] D tA [(h0, .inr (13, fs)), (n0, .inr (14, [.ref na, .int 16])), (na, .inl (tA 0, 16, .inl (f)))] sz (fun _ : Nat => True) (fun qn => [(h0, .inr (13, fs)), (na, .inl (tA 0, 16, .inl (f))), (n0, .inr (14, [.ref qn, .int 20])), (qn, .inl (tA 0, 32, .inl (upd ((upd ((upd ((upd (fun j => if j < 16 then f j else 0) 16 (((b >>> (24 &&& 31)) &&& 255)))) 17 (((b >>> (16 &&& 31)) &&& 255)))) 18 (((b >>> (8 &&& 31)) &&& 255)))) 19 (((b >>> (0 &&& 31)) &&& 255)))))]) 1 32 := by
  refine zOpen (fun A => va_Qv (fun _ : Nat => True) (zPost D A (fun qn => [(h0, .inr (13, fs)), (na, .inl (tA 0, 16, .inl (f))), (n0, .inr (14, [.ref qn, .int 20])), (qn, .inl (tA 0, 32, .inl (upd ((upd ((upd ((upd (fun j => if j < 16 then f j else 0) 16 (((b >>> (24 &&& 31)) &&& 255)))) 17 (((b >>> (16 &&& 31)) &&& 255)))) 18 (((b >>> (8 &&& 31)) &&& 255)))) 19 (((b >>> (0 &&& 31)) &&& 255)))))])) A) (lv := [(0, .ref h0), (1, .int b)]) (by decide) rfl (Nat.le_of_ble_eq_true rfl) rfl ?_
  intro p e s m below meth c A ls hx hb hr hml hh hg hown hlocks hnm hK hA hP hD0 hAw hS hl
  have hD := zD hD0 hAw
  refine lv_bipush (v := 24) hx hb d_MM_add4_0 (by decide) ?_
  refine lv_istore_n (lv' := [(2, .int 24), (0, .ref h0), (1, .int b)]) hx hb d_MM_add4_2 rfl hl (by decide) rfl (fun ls hl => ?_)
  refine lv_iload_n hx hb d_MM_add4_3 rfl (lv_at hl 0 rfl) ?_
  refine lv_if_lt (tgt := 27) hx hb d_MM_add4_4 (by decide) (fun c9 => absurd c9 (by decide)) (fun _ => ?_)
  refine lv_aload_n hx hb d_MM_add4_7 rfl (lv_at hl 1 rfl) ?_
  refine va_get (D := D) (ci := 13) (v := .ref n0) (C := R_MM) (T := T_MM) (N := 49) hx hb hg i_MM hown hK hP 0 rfl rfl 1 (by decide) (hg _ k10_82) (fun _ h9 => h9) hh0_tape d_MM_add4_8 ?_
  refine lv_iload_n hx hb d_MM_add4_11 rfl (lv_at hl 2 rfl) ?_
  refine lv_iload_n hx hb d_MM_add4_12 rfl (lv_at hl 0 rfl) ?_
  refine lv_ishr hx hb d_MM_add4_13 ?_
  refine lv_sipush (v := 255) hx hb d_MM_add4_14 (by decide) ?_
  refine lv_iand hx hb d_MM_add4_17 ?_
  refine zCallv (wc := [(n0, .inr (14, [.ref na, .int 16])), (na, .inl (tA 0, 16, .inl (f)))]) (wr := [(h0, .inr (13, fs))]) hP hD hS hA [1, 2] [0] rfl rfl (by decide) (by decide) (va_runV (As := [.int ((b >>> (24 &&& 31)) &&& 255)]) (rest := []) ⟨hx, hb, hml, hown, hg⟩ (c_MN_add_grow l D tA _ n0 na 16 f ((b >>> (24 &&& 31)) &&& 255) (by decide) (by decide)) (zV 1 hg k11_1 k11_2 k11_3 k1_15 k11_4 rfl rfl (by decide +kernel) ⟨(Nat.le_of_ble_eq_true rfl), (Nat.le_of_ble_eq_true rfl)⟩) (zPreV hh hK hP hD [1, 2] (by decide) rfl (ci := 14) rfl 0 rfl) rfl rfl hl.1 rfl (lv_room (Nat.le_of_ble_eq_true rfl)) d_MM_add4_18 ⟨(Nat.le_of_ble_eq_true rfl), (Nat.le_of_ble_eq_true rfl)⟩) (fun qn H1 locs1 _ hP1 hD1 hS1 => ?_)
  clear hP hD hS
  refine W.cs (cells' := 1) (slots' := 32) rfl rfl ?_
  replace hP1 : va_P D vwCl [(h0, .inr (13, fs)), (n0, .inr (14, [.ref qn, .int 17])), (na, .inl (tA 0, 16, .inl (f))), (qn, .inl (tA 0, 32, .inl (upd (fun j => if j < 16 then f j else 0) 16 (((b >>> (24 &&& 31)) &&& 255)))))] _ := hP1
  replace hD1 : va_D A [(h0, .inr (13, fs)), (n0, .inr (14, [.ref qn, .int 17])), (na, .inl (tA 0, 16, .inl (f))), (qn, .inl (tA 0, 32, .inl (upd (fun j => if j < 16 then f j else 0) 16 (((b >>> (24 &&& 31)) &&& 255)))))] := hD1
  refine lv_iinc (v := 16) (lv' := [(2, .int 16), (0, .ref h0), (1, .int b)]) hx hb d_MM_add4_21 hl (k := 0) rfl (by decide) (by decide) rfl (fun ls hl => ?_)
  refine lv_goto (tgt := 3) hx hb d_MM_add4_24 (by decide) ?_
  refine lv_iload_n hx hb d_MM_add4_3 rfl (lv_at hl 0 rfl) ?_
  refine lv_if_lt (tgt := 27) hx hb d_MM_add4_4 (by decide) (fun c9 => absurd c9 (by decide)) (fun _ => ?_)
  refine lv_aload_n hx hb d_MM_add4_7 rfl (lv_at hl 1 rfl) ?_
  refine va_get (D := D) (ci := 13) (v := .ref n0) (C := R_MM) (T := T_MM) (N := 49) hx hb hg i_MM hown hK hP1 0 rfl rfl 1 (by decide) (hg _ k10_82) (fun _ h9 => h9) hh0_tape d_MM_add4_8 ?_
  refine lv_iload_n hx hb d_MM_add4_11 rfl (lv_at hl 2 rfl) ?_
  refine lv_iload_n hx hb d_MM_add4_12 rfl (lv_at hl 0 rfl) ?_
  refine lv_ishr hx hb d_MM_add4_13 ?_
  refine lv_sipush (v := 255) hx hb d_MM_add4_14 (by decide) ?_
  refine lv_iand hx hb d_MM_add4_17 ?_
  refine zCallv (wc := [(n0, .inr (14, [.ref qn, .int 17])), (qn, .inl (tA 0, 32, .inl (upd (fun j => if j < 16 then f j else 0) 16 (((b >>> (24 &&& 31)) &&& 255)))))]) (wr := [(h0, .inr (13, fs)), (na, .inl (tA 0, 16, .inl (f)))]) hP1 hD1 hS1 hA [1, 3] [0, 2] rfl rfl (by decide) (by decide) (va_runV (As := [.int ((b >>> (16 &&& 31)) &&& 255)]) (rest := []) ⟨hx, hb, hml, hown, hg⟩ (c_MN_add_room l D tA _ n0 qn 32 17 (upd (fun j => if j < 16 then f j else 0) 16 (((b >>> (24 &&& 31)) &&& 255))) ((b >>> (16 &&& 31)) &&& 255) (by decide) (by decide)) (zV 1 hg k11_1 k11_2 k11_3 k1_15 k11_4 rfl rfl (by decide +kernel) ⟨(Nat.le_of_ble_eq_true rfl), (Nat.le_of_ble_eq_true rfl)⟩) (zPreV hh hK hP1 hD1 [1, 3] (by decide) rfl (ci := 14) rfl 0 rfl) rfl rfl hl.1 rfl (lv_room (Nat.le_of_ble_eq_true rfl)) d_MM_add4_18 ⟨(Nat.le_of_ble_eq_true rfl), (Nat.le_of_ble_eq_true rfl)⟩) (fun _ H2 locs2 _ hP2 hD2 hS2 => ?_)
  clear hP1 hD1 hS1
  replace hP2 : va_P D vwCl [(h0, .inr (13, fs)), (na, .inl (tA 0, 16, .inl (f))), (n0, .inr (14, [.ref qn, .int 18])), (qn, .inl (tA 0, 32, .inl (upd ((upd (fun j => if j < 16 then f j else 0) 16 (((b >>> (24 &&& 31)) &&& 255)))) 17 (((b >>> (16 &&& 31)) &&& 255)))))] _ := hP2
  replace hD2 : va_D A [(h0, .inr (13, fs)), (na, .inl (tA 0, 16, .inl (f))), (n0, .inr (14, [.ref qn, .int 18])), (qn, .inl (tA 0, 32, .inl (upd ((upd (fun j => if j < 16 then f j else 0) 16 (((b >>> (24 &&& 31)) &&& 255)))) 17 (((b >>> (16 &&& 31)) &&& 255)))))] := hD2
  refine lv_iinc (v := 8) (lv' := [(2, .int 8), (0, .ref h0), (1, .int b)]) hx hb d_MM_add4_21 hl (k := 0) rfl (by decide) (by decide) rfl (fun ls hl => ?_)
  refine lv_goto (tgt := 3) hx hb d_MM_add4_24 (by decide) ?_
  refine lv_iload_n hx hb d_MM_add4_3 rfl (lv_at hl 0 rfl) ?_
  refine lv_if_lt (tgt := 27) hx hb d_MM_add4_4 (by decide) (fun c9 => absurd c9 (by decide)) (fun _ => ?_)
  refine lv_aload_n hx hb d_MM_add4_7 rfl (lv_at hl 1 rfl) ?_
  refine va_get (D := D) (ci := 13) (v := .ref n0) (C := R_MM) (T := T_MM) (N := 49) hx hb hg i_MM hown hK hP2 0 rfl rfl 1 (by decide) (hg _ k10_82) (fun _ h9 => h9) hh0_tape d_MM_add4_8 ?_
  refine lv_iload_n hx hb d_MM_add4_11 rfl (lv_at hl 2 rfl) ?_
  refine lv_iload_n hx hb d_MM_add4_12 rfl (lv_at hl 0 rfl) ?_
  refine lv_ishr hx hb d_MM_add4_13 ?_
  refine lv_sipush (v := 255) hx hb d_MM_add4_14 (by decide) ?_
  refine lv_iand hx hb d_MM_add4_17 ?_
  refine zCallv (wc := [(n0, .inr (14, [.ref qn, .int 18])), (qn, .inl (tA 0, 32, .inl (upd ((upd (fun j => if j < 16 then f j else 0) 16 (((b >>> (24 &&& 31)) &&& 255)))) 17 (((b >>> (16 &&& 31)) &&& 255)))))]) (wr := [(h0, .inr (13, fs)), (na, .inl (tA 0, 16, .inl (f)))]) hP2 hD2 hS2 hA [2, 3] [0, 1] rfl rfl (by decide) (by decide) (va_runV (As := [.int ((b >>> (8 &&& 31)) &&& 255)]) (rest := []) ⟨hx, hb, hml, hown, hg⟩ (c_MN_add_room l D tA _ n0 qn 32 18 (upd ((upd (fun j => if j < 16 then f j else 0) 16 (((b >>> (24 &&& 31)) &&& 255)))) 17 (((b >>> (16 &&& 31)) &&& 255))) ((b >>> (8 &&& 31)) &&& 255) (by decide) (by decide)) (zV 1 hg k11_1 k11_2 k11_3 k1_15 k11_4 rfl rfl (by decide +kernel) ⟨(Nat.le_of_ble_eq_true rfl), (Nat.le_of_ble_eq_true rfl)⟩) (zPreV hh hK hP2 hD2 [2, 3] (by decide) rfl (ci := 14) rfl 0 rfl) rfl rfl hl.1 rfl (lv_room (Nat.le_of_ble_eq_true rfl)) d_MM_add4_18 ⟨(Nat.le_of_ble_eq_true rfl), (Nat.le_of_ble_eq_true rfl)⟩) (fun _ H3 locs3 _ hP3 hD3 hS3 => ?_)
  clear hP2 hD2 hS2
  replace hP3 : va_P D vwCl [(h0, .inr (13, fs)), (na, .inl (tA 0, 16, .inl (f))), (n0, .inr (14, [.ref qn, .int 19])), (qn, .inl (tA 0, 32, .inl (upd ((upd ((upd (fun j => if j < 16 then f j else 0) 16 (((b >>> (24 &&& 31)) &&& 255)))) 17 (((b >>> (16 &&& 31)) &&& 255)))) 18 (((b >>> (8 &&& 31)) &&& 255)))))] _ := hP3
  replace hD3 : va_D A [(h0, .inr (13, fs)), (na, .inl (tA 0, 16, .inl (f))), (n0, .inr (14, [.ref qn, .int 19])), (qn, .inl (tA 0, 32, .inl (upd ((upd ((upd (fun j => if j < 16 then f j else 0) 16 (((b >>> (24 &&& 31)) &&& 255)))) 17 (((b >>> (16 &&& 31)) &&& 255)))) 18 (((b >>> (8 &&& 31)) &&& 255)))))] := hD3
  refine lv_iinc (v := 0) (lv' := [(2, .int 0), (0, .ref h0), (1, .int b)]) hx hb d_MM_add4_21 hl (k := 0) rfl (by decide) (by decide) rfl (fun ls hl => ?_)
  refine lv_goto (tgt := 3) hx hb d_MM_add4_24 (by decide) ?_
  refine lv_iload_n hx hb d_MM_add4_3 rfl (lv_at hl 0 rfl) ?_
  refine lv_if_lt (tgt := 27) hx hb d_MM_add4_4 (by decide) (fun c9 => absurd c9 (by decide)) (fun _ => ?_)
  refine lv_aload_n hx hb d_MM_add4_7 rfl (lv_at hl 1 rfl) ?_
  refine va_get (D := D) (ci := 13) (v := .ref n0) (C := R_MM) (T := T_MM) (N := 49) hx hb hg i_MM hown hK hP3 0 rfl rfl 1 (by decide) (hg _ k10_82) (fun _ h9 => h9) hh0_tape d_MM_add4_8 ?_
  refine lv_iload_n hx hb d_MM_add4_11 rfl (lv_at hl 2 rfl) ?_
  refine lv_iload_n hx hb d_MM_add4_12 rfl (lv_at hl 0 rfl) ?_
  refine lv_ishr hx hb d_MM_add4_13 ?_
  refine lv_sipush (v := 255) hx hb d_MM_add4_14 (by decide) ?_
  refine lv_iand hx hb d_MM_add4_17 ?_
  refine zCallv (wc := [(n0, .inr (14, [.ref qn, .int 19])), (qn, .inl (tA 0, 32, .inl (upd ((upd ((upd (fun j => if j < 16 then f j else 0) 16 (((b >>> (24 &&& 31)) &&& 255)))) 17 (((b >>> (16 &&& 31)) &&& 255)))) 18 (((b >>> (8 &&& 31)) &&& 255)))))]) (wr := [(h0, .inr (13, fs)), (na, .inl (tA 0, 16, .inl (f)))]) hP3 hD3 hS3 hA [2, 3] [0, 1] rfl rfl (by decide) (by decide) (va_runV (As := [.int ((b >>> (0 &&& 31)) &&& 255)]) (rest := []) ⟨hx, hb, hml, hown, hg⟩ (c_MN_add_room l D tA _ n0 qn 32 19 (upd ((upd ((upd (fun j => if j < 16 then f j else 0) 16 (((b >>> (24 &&& 31)) &&& 255)))) 17 (((b >>> (16 &&& 31)) &&& 255)))) 18 (((b >>> (8 &&& 31)) &&& 255))) ((b >>> (0 &&& 31)) &&& 255) (by decide) (by decide)) (zV 1 hg k11_1 k11_2 k11_3 k1_15 k11_4 rfl rfl (by decide +kernel) ⟨(Nat.le_of_ble_eq_true rfl), (Nat.le_of_ble_eq_true rfl)⟩) (zPreV hh hK hP3 hD3 [2, 3] (by decide) rfl (ci := 14) rfl 0 rfl) rfl rfl hl.1 rfl (lv_room (Nat.le_of_ble_eq_true rfl)) d_MM_add4_18 ⟨(Nat.le_of_ble_eq_true rfl), (Nat.le_of_ble_eq_true rfl)⟩) (fun _ H4 locs4 _ hP4 hD4 hS4 => ?_)
  clear hP3 hD3 hS3
  replace hP4 : va_P D vwCl [(h0, .inr (13, fs)), (na, .inl (tA 0, 16, .inl (f))), (n0, .inr (14, [.ref qn, .int 20])), (qn, .inl (tA 0, 32, .inl (upd ((upd ((upd ((upd (fun j => if j < 16 then f j else 0) 16 (((b >>> (24 &&& 31)) &&& 255)))) 17 (((b >>> (16 &&& 31)) &&& 255)))) 18 (((b >>> (8 &&& 31)) &&& 255)))) 19 (((b >>> (0 &&& 31)) &&& 255)))))] _ := hP4
  replace hD4 : va_D A [(h0, .inr (13, fs)), (na, .inl (tA 0, 16, .inl (f))), (n0, .inr (14, [.ref qn, .int 20])), (qn, .inl (tA 0, 32, .inl (upd ((upd ((upd ((upd (fun j => if j < 16 then f j else 0) 16 (((b >>> (24 &&& 31)) &&& 255)))) 17 (((b >>> (16 &&& 31)) &&& 255)))) 18 (((b >>> (8 &&& 31)) &&& 255)))) 19 (((b >>> (0 &&& 31)) &&& 255)))))] := hD4
  refine lv_iinc (v := (-8)) (lv' := [(2, .int (-8)), (0, .ref h0), (1, .int b)]) hx hb d_MM_add4_21 hl (k := 0) rfl (by decide) (by decide) rfl (fun ls hl => ?_)
  refine lv_goto (tgt := 3) hx hb d_MM_add4_24 (by decide) ?_
  refine lv_iload_n hx hb d_MM_add4_3 rfl (lv_at hl 0 rfl) ?_
  refine lv_if_lt (tgt := 27) hx hb d_MM_add4_4 (by decide) (fun _ => ?_) (fun c9 => absurd (by decide) c9)
  exact zVret (post := fun _ : Nat => True) (W1 := fun qn => [(h0, .inr (13, fs)), (na, .inl (tA 0, 16, .inl (f))), (n0, .inr (14, [.ref qn, .int 20])), (qn, .inl (tA 0, 32, .inl (upd ((upd ((upd ((upd (fun j => if j < 16 then f j else 0) 16 (((b >>> (24 &&& 31)) &&& 255)))) 17 (((b >>> (16 &&& 31)) &&& 255)))) 18 (((b >>> (8 &&& 31)) &&& 255)))) 19 (((b >>> (0 &&& 31)) &&& 255)))))]) hx hb hr hlocks hP4 hD4 hS4 qn trivial rfl d_MM_add4_27
set_option maxHeartbeats 4000000 in
set_option maxRecDepth 100000 in
theorem c_MM_feed_0 (l : Launch) (D : va_G) (tA : Nat → ClassId) (sz : Nat) (h0 : Nat) (n0 : Nat) (na : Nat) (fs : List Value) (f : Nat → Int32) (b1 : Int32) (b2 : Int32) (b3 : Int32) (b4 : Int32) (b5 : Int32) (hh0_thrown : fs[0]? = some (.int 0)) (hh0_tape : fs[1]? = some (.ref n0)) : zMi l ({ cls := "ChanceArenaModel", name := "feed", desc := "(IIIII)I" } : Jvm.MethodName) (zW (Jvm.Cond.code ({ cls := "ChanceArenaModel", name := "feed", desc := "(IIIII)I" } : Jvm.MethodName) prog_15_method_3_code (6 : Nat) (Option.some Jvm.ClassFile.FieldType.int))) { frames := 2, cells := 1, slots := 32, locals := 45 } [.ref h0, .int b1, .int b2, .int b3, .int b4, .int b5] D tA [(h0, .inr (13, fs)), (n0, .inr (14, [.ref na, .int 0])), (na, .inl (tA 0, 16, .inl (f)))] sz (fun r (_ : Nat) => r = 20) (fun qn => [(h0, .inr (13, (fs.set 0 (.int 0)))), (na, .inl (tA 0, 16, .inl (upd ((upd ((upd ((upd ((upd ((upd ((upd ((upd ((upd ((upd ((upd ((upd ((upd ((upd ((upd ((upd (f) 0 (((b1 >>> (24 &&& 31)) &&& 255)))) 1 (((b1 >>> (16 &&& 31)) &&& 255)))) 2 (((b1 >>> (8 &&& 31)) &&& 255)))) 3 (((b1 >>> (0 &&& 31)) &&& 255)))) 4 (((b2 >>> (24 &&& 31)) &&& 255)))) 5 (((b2 >>> (16 &&& 31)) &&& 255)))) 6 (((b2 >>> (8 &&& 31)) &&& 255)))) 7 (((b2 >>> (0 &&& 31)) &&& 255)))) 8 (((b3 >>> (24 &&& 31)) &&& 255)))) 9 (((b3 >>> (16 &&& 31)) &&& 255)))) 10 (((b3 >>> (8 &&& 31)) &&& 255)))) 11 (((b3 >>> (0 &&& 31)) &&& 255)))) 12 (((b4 >>> (24 &&& 31)) &&& 255)))) 13 (((b4 >>> (16 &&& 31)) &&& 255)))) 14 (((b4 >>> (8 &&& 31)) &&& 255)))) 15 (((b4 >>> (0 &&& 31)) &&& 255))))), (n0, .inr (14, [.ref qn, .int 20])), (qn, .inl (tA 0, 32, .inl (upd ((upd ((upd ((upd (fun j => if j < 16 then (upd ((upd ((upd ((upd ((upd ((upd ((upd ((upd ((upd ((upd ((upd ((upd ((upd ((upd ((upd ((upd (f) 0 (((b1 >>> (24 &&& 31)) &&& 255)))) 1 (((b1 >>> (16 &&& 31)) &&& 255)))) 2 (((b1 >>> (8 &&& 31)) &&& 255)))) 3 (((b1 >>> (0 &&& 31)) &&& 255)))) 4 (((b2 >>> (24 &&& 31)) &&& 255)))) 5 (((b2 >>> (16 &&& 31)) &&& 255)))) 6 (((b2 >>> (8 &&& 31)) &&& 255)))) 7 (((b2 >>> (0 &&& 31)) &&& 255)))) 8 (((b3 >>> (24 &&& 31)) &&& 255)))) 9 (((b3 >>> (16 &&& 31)) &&& 255)))) 10 (((b3 >>> (8 &&& 31)) &&& 255)))) 11 (((b3 >>> (0 &&& 31)) &&& 255)))) 12 (((b4 >>> (24 &&& 31)) &&& 255)))) 13 (((b4 >>> (16 &&& 31)) &&& 255)))) 14 (((b4 >>> (8 &&& 31)) &&& 255)))) 15 (((b4 >>> (0 &&& 31)) &&& 255))) j else 0) 16 (((b5 >>> (24 &&& 31)) &&& 255)))) 17 (((b5 >>> (16 &&& 31)) &&& 255)))) 18 (((b5 >>> (8 &&& 31)) &&& 255)))) 19 (((b5 >>> (0 &&& 31)) &&& 255)))))]) 1 32 := by
  refine zOpen (fun A => va_Qi (fun r (_ : Nat) => r = 20) (zPost D A (fun qn => [(h0, .inr (13, (fs.set 0 (.int 0)))), (na, .inl (tA 0, 16, .inl (upd ((upd ((upd ((upd ((upd ((upd ((upd ((upd ((upd ((upd ((upd ((upd ((upd ((upd ((upd ((upd (f) 0 (((b1 >>> (24 &&& 31)) &&& 255)))) 1 (((b1 >>> (16 &&& 31)) &&& 255)))) 2 (((b1 >>> (8 &&& 31)) &&& 255)))) 3 (((b1 >>> (0 &&& 31)) &&& 255)))) 4 (((b2 >>> (24 &&& 31)) &&& 255)))) 5 (((b2 >>> (16 &&& 31)) &&& 255)))) 6 (((b2 >>> (8 &&& 31)) &&& 255)))) 7 (((b2 >>> (0 &&& 31)) &&& 255)))) 8 (((b3 >>> (24 &&& 31)) &&& 255)))) 9 (((b3 >>> (16 &&& 31)) &&& 255)))) 10 (((b3 >>> (8 &&& 31)) &&& 255)))) 11 (((b3 >>> (0 &&& 31)) &&& 255)))) 12 (((b4 >>> (24 &&& 31)) &&& 255)))) 13 (((b4 >>> (16 &&& 31)) &&& 255)))) 14 (((b4 >>> (8 &&& 31)) &&& 255)))) 15 (((b4 >>> (0 &&& 31)) &&& 255))))), (n0, .inr (14, [.ref qn, .int 20])), (qn, .inl (tA 0, 32, .inl (upd ((upd ((upd ((upd (fun j => if j < 16 then (upd ((upd ((upd ((upd ((upd ((upd ((upd ((upd ((upd ((upd ((upd ((upd ((upd ((upd ((upd ((upd (f) 0 (((b1 >>> (24 &&& 31)) &&& 255)))) 1 (((b1 >>> (16 &&& 31)) &&& 255)))) 2 (((b1 >>> (8 &&& 31)) &&& 255)))) 3 (((b1 >>> (0 &&& 31)) &&& 255)))) 4 (((b2 >>> (24 &&& 31)) &&& 255)))) 5 (((b2 >>> (16 &&& 31)) &&& 255)))) 6 (((b2 >>> (8 &&& 31)) &&& 255)))) 7 (((b2 >>> (0 &&& 31)) &&& 255)))) 8 (((b3 >>> (24 &&& 31)) &&& 255)))) 9 (((b3 >>> (16 &&& 31)) &&& 255)))) 10 (((b3 >>> (8 &&& 31)) &&& 255)))) 11 (((b3 >>> (0 &&& 31)) &&& 255)))) 12 (((b4 >>> (24 &&& 31)) &&& 255)))) 13 (((b4 >>> (16 &&& 31)) &&& 255)))) 14 (((b4 >>> (8 &&& 31)) &&& 255)))) 15 (((b4 >>> (0 &&& 31)) &&& 255))) j else 0) 16 (((b5 >>> (24 &&& 31)) &&& 255)))) 17 (((b5 >>> (16 &&& 31)) &&& 255)))) 18 (((b5 >>> (8 &&& 31)) &&& 255)))) 19 (((b5 >>> (0 &&& 31)) &&& 255)))))])) A) (lv := [(0, .ref h0), (1, .int b1), (2, .int b2), (3, .int b3), (4, .int b4), (5, .int b5)]) (by decide) rfl (Nat.le_of_ble_eq_true rfl) rfl ?_
  intro p e s m below meth c A ls hx hb hr hml hh hg hown hlocks hnm hK hA hP hD0 hAw hS hl
  have hD := zD hD0 hAw
  refine lv_aload_n hx hb d_MM_feed_0 rfl (lv_at hl 0 rfl) ?_
  refine lv_iconst (v := 0) hx hb d_MM_feed_1 (by decide) ?_
  refine va_put (D := D) (ci := 13) (v := .int 0) (ty := .int) (C := R_MM) (T := T_MM) (N := 49) hx hb hg i_MM t_MM o_MM n_MM hown hK hP hD hS 0 rfl rfl 0 (by decide) (hg _ k10_81) (fun _ h9 => h9) rfl (by decide +kernel) rfl rfl (zLen hh0_thrown) d_MM_feed_2 (fun H1 locs1 hP1 hD1 hS1 => ?_)
  clear hP hD hS
  replace hP1 : va_P D vwCl [(h0, .inr (13, (fs.set 0 (.int 0)))), (n0, .inr (14, [.ref na, .int 0])), (na, .inl (tA 0, 16, .inl (f)))] _ := hP1
  replace hD1 : va_D A [(h0, .inr (13, (fs.set 0 (.int 0)))), (n0, .inr (14, [.ref na, .int 0])), (na, .inl (tA 0, 16, .inl (f)))] := hD1
  refine lv_aload_n hx hb d_MM_feed_5 rfl (lv_at hl 0 rfl) ?_
  refine va_get (D := D) (ci := 13) (v := .ref n0) (C := R_MM) (T := T_MM) (N := 49) hx hb hg i_MM hown hK hP1 0 rfl rfl 1 (by decide) (hg _ k10_82) (fun _ h9 => h9) (zSetN (by decide) hh0_tape) d_MM_feed_6 ?_
  refine va_getN (D := D) (ci := 14) (v := .int 0) (C := R_MN) (T := T_MN) (N := 2) hx hb hg i_MN hown hK hP1 1 rfl rfl 1 (by decide) (hg _ k9_10) (fun _ h9 => h9) rfl d_MM_feed_9 ?_
  refine lv_bipush (v := 20) hx hb d_MM_feed_12 (by decide) ?_
  refine lv_iadd hx hb d_MM_feed_14 ?_
  rw [show (0 : Int32) + 20 = 20 from by decide]
  refine lv_sipush (v := 16384) hx hb d_MM_feed_15 (by decide) ?_
  refine lv_icmp_le (tgt := 23) hx hb d_MM_feed_18 (by decide) (fun _ => ?_) (fun c9 => absurd (by decide) c9)
  refine lv_aload_n hx hb d_MM_feed_23 rfl (lv_at hl 0 rfl) ?_
  refine lv_iload_n hx hb d_MM_feed_24 rfl (lv_at hl 1 rfl) ?_
  refine zCallv (wc := [(h0, .inr (13, (fs.set 0 (.int 0)))), (n0, .inr (14, [.ref na, .int 0])), (na, .inl (tA 0, 16, .inl (f)))]) (wr := []) hP1 hD1 hS1 hA [0, 1, 2] [] rfl rfl (by decide) (by decide) (va_runV (As := [.int b1]) (rest := []) ⟨hx, hb, hml, hown, hg⟩ (c_MM_add4_at0 l D tA _ h0 n0 na (fs.set 0 (.int 0)) f b1 (zSetN (by decide) hh0_tape)) (zV 1 hg k10_237 k10_239 ks_MM_add4 k1_14 k11_0 rfl rfl (by decide +kernel) ⟨(Nat.le_of_ble_eq_true rfl), (Nat.le_of_ble_eq_true rfl)⟩) (zPreV hh hK hP1 hD1 [0, 1, 2] (by decide) rfl (ci := 13) rfl 0 rfl) rfl rfl hl.1 rfl (lv_room (Nat.le_of_ble_eq_true rfl)) d_MM_feed_25 ⟨(Nat.le_of_ble_eq_true rfl), (Nat.le_of_ble_eq_true rfl)⟩) (fun _ H2 locs2 _ hP2 hD2 hS2 => ?_)
  clear hP1 hD1 hS1
  replace hP2 : va_P D vwCl [(h0, .inr (13, (fs.set 0 (.int 0)))), (n0, .inr (14, [.ref na, .int 4])), (na, .inl (tA 0, 16, .inl (upd ((upd ((upd ((upd (f) 0 (((b1 >>> (24 &&& 31)) &&& 255)))) 1 (((b1 >>> (16 &&& 31)) &&& 255)))) 2 (((b1 >>> (8 &&& 31)) &&& 255)))) 3 (((b1 >>> (0 &&& 31)) &&& 255)))))] _ := hP2
  replace hD2 : va_D A [(h0, .inr (13, (fs.set 0 (.int 0)))), (n0, .inr (14, [.ref na, .int 4])), (na, .inl (tA 0, 16, .inl (upd ((upd ((upd ((upd (f) 0 (((b1 >>> (24 &&& 31)) &&& 255)))) 1 (((b1 >>> (16 &&& 31)) &&& 255)))) 2 (((b1 >>> (8 &&& 31)) &&& 255)))) 3 (((b1 >>> (0 &&& 31)) &&& 255)))))] := hD2
  refine lv_aload_n hx hb d_MM_feed_28 rfl (lv_at hl 0 rfl) ?_
  refine lv_iload_n hx hb d_MM_feed_29 rfl (lv_at hl 2 rfl) ?_
  refine zCallv (wc := [(h0, .inr (13, (fs.set 0 (.int 0)))), (n0, .inr (14, [.ref na, .int 4])), (na, .inl (tA 0, 16, .inl (upd ((upd ((upd ((upd (f) 0 (((b1 >>> (24 &&& 31)) &&& 255)))) 1 (((b1 >>> (16 &&& 31)) &&& 255)))) 2 (((b1 >>> (8 &&& 31)) &&& 255)))) 3 (((b1 >>> (0 &&& 31)) &&& 255)))))]) (wr := []) hP2 hD2 hS2 hA [0, 1, 2] [] rfl rfl (by decide) (by decide) (va_runV (As := [.int b2]) (rest := []) ⟨hx, hb, hml, hown, hg⟩ (c_MM_add4_at4 l D tA _ h0 n0 na (fs.set 0 (.int 0)) (upd ((upd ((upd ((upd (f) 0 (((b1 >>> (24 &&& 31)) &&& 255)))) 1 (((b1 >>> (16 &&& 31)) &&& 255)))) 2 (((b1 >>> (8 &&& 31)) &&& 255)))) 3 (((b1 >>> (0 &&& 31)) &&& 255))) b2 (zSetN (by decide) hh0_tape)) (zV 1 hg k10_237 k10_239 ks_MM_add4 k1_14 k11_0 rfl rfl (by decide +kernel) ⟨(Nat.le_of_ble_eq_true rfl), (Nat.le_of_ble_eq_true rfl)⟩) (zPreV hh hK hP2 hD2 [0, 1, 2] (by decide) rfl (ci := 13) rfl 0 rfl) rfl rfl hl.1 rfl (lv_room (Nat.le_of_ble_eq_true rfl)) d_MM_feed_30 ⟨(Nat.le_of_ble_eq_true rfl), (Nat.le_of_ble_eq_true rfl)⟩) (fun _ H3 locs3 _ hP3 hD3 hS3 => ?_)
  clear hP2 hD2 hS2
  replace hP3 : va_P D vwCl [(h0, .inr (13, (fs.set 0 (.int 0)))), (n0, .inr (14, [.ref na, .int 8])), (na, .inl (tA 0, 16, .inl (upd ((upd ((upd ((upd ((upd ((upd ((upd ((upd (f) 0 (((b1 >>> (24 &&& 31)) &&& 255)))) 1 (((b1 >>> (16 &&& 31)) &&& 255)))) 2 (((b1 >>> (8 &&& 31)) &&& 255)))) 3 (((b1 >>> (0 &&& 31)) &&& 255)))) 4 (((b2 >>> (24 &&& 31)) &&& 255)))) 5 (((b2 >>> (16 &&& 31)) &&& 255)))) 6 (((b2 >>> (8 &&& 31)) &&& 255)))) 7 (((b2 >>> (0 &&& 31)) &&& 255)))))] _ := hP3
  replace hD3 : va_D A [(h0, .inr (13, (fs.set 0 (.int 0)))), (n0, .inr (14, [.ref na, .int 8])), (na, .inl (tA 0, 16, .inl (upd ((upd ((upd ((upd ((upd ((upd ((upd ((upd (f) 0 (((b1 >>> (24 &&& 31)) &&& 255)))) 1 (((b1 >>> (16 &&& 31)) &&& 255)))) 2 (((b1 >>> (8 &&& 31)) &&& 255)))) 3 (((b1 >>> (0 &&& 31)) &&& 255)))) 4 (((b2 >>> (24 &&& 31)) &&& 255)))) 5 (((b2 >>> (16 &&& 31)) &&& 255)))) 6 (((b2 >>> (8 &&& 31)) &&& 255)))) 7 (((b2 >>> (0 &&& 31)) &&& 255)))))] := hD3
  refine lv_aload_n hx hb d_MM_feed_33 rfl (lv_at hl 0 rfl) ?_
  refine lv_iload_n hx hb d_MM_feed_34 rfl (lv_at hl 3 rfl) ?_
  refine zCallv (wc := [(h0, .inr (13, (fs.set 0 (.int 0)))), (n0, .inr (14, [.ref na, .int 8])), (na, .inl (tA 0, 16, .inl (upd ((upd ((upd ((upd ((upd ((upd ((upd ((upd (f) 0 (((b1 >>> (24 &&& 31)) &&& 255)))) 1 (((b1 >>> (16 &&& 31)) &&& 255)))) 2 (((b1 >>> (8 &&& 31)) &&& 255)))) 3 (((b1 >>> (0 &&& 31)) &&& 255)))) 4 (((b2 >>> (24 &&& 31)) &&& 255)))) 5 (((b2 >>> (16 &&& 31)) &&& 255)))) 6 (((b2 >>> (8 &&& 31)) &&& 255)))) 7 (((b2 >>> (0 &&& 31)) &&& 255)))))]) (wr := []) hP3 hD3 hS3 hA [0, 1, 2] [] rfl rfl (by decide) (by decide) (va_runV (As := [.int b3]) (rest := []) ⟨hx, hb, hml, hown, hg⟩ (c_MM_add4_at8 l D tA _ h0 n0 na (fs.set 0 (.int 0)) (upd ((upd ((upd ((upd ((upd ((upd ((upd ((upd (f) 0 (((b1 >>> (24 &&& 31)) &&& 255)))) 1 (((b1 >>> (16 &&& 31)) &&& 255)))) 2 (((b1 >>> (8 &&& 31)) &&& 255)))) 3 (((b1 >>> (0 &&& 31)) &&& 255)))) 4 (((b2 >>> (24 &&& 31)) &&& 255)))) 5 (((b2 >>> (16 &&& 31)) &&& 255)))) 6 (((b2 >>> (8 &&& 31)) &&& 255)))) 7 (((b2 >>> (0 &&& 31)) &&& 255))) b3 (zSetN (by decide) hh0_tape)) (zV 1 hg k10_237 k10_239 ks_MM_add4 k1_14 k11_0 rfl rfl (by decide +kernel) ⟨(Nat.le_of_ble_eq_true rfl), (Nat.le_of_ble_eq_true rfl)⟩) (zPreV hh hK hP3 hD3 [0, 1, 2] (by decide) rfl (ci := 13) rfl 0 rfl) rfl rfl hl.1 rfl (lv_room (Nat.le_of_ble_eq_true rfl)) d_MM_feed_35 ⟨(Nat.le_of_ble_eq_true rfl), (Nat.le_of_ble_eq_true rfl)⟩) (fun _ H4 locs4 _ hP4 hD4 hS4 => ?_)
  clear hP3 hD3 hS3
  replace hP4 : va_P D vwCl [(h0, .inr (13, (fs.set 0 (.int 0)))), (n0, .inr (14, [.ref na, .int 12])), (na, .inl (tA 0, 16, .inl (upd ((upd ((upd ((upd ((upd ((upd ((upd ((upd ((upd ((upd ((upd ((upd (f) 0 (((b1 >>> (24 &&& 31)) &&& 255)))) 1 (((b1 >>> (16 &&& 31)) &&& 255)))) 2 (((b1 >>> (8 &&& 31)) &&& 255)))) 3 (((b1 >>> (0 &&& 31)) &&& 255)))) 4 (((b2 >>> (24 &&& 31)) &&& 255)))) 5 (((b2 >>> (16 &&& 31)) &&& 255)))) 6 (((b2 >>> (8 &&& 31)) &&& 255)))) 7 (((b2 >>> (0 &&& 31)) &&& 255)))) 8 (((b3 >>> (24 &&& 31)) &&& 255)))) 9 (((b3 >>> (16 &&& 31)) &&& 255)))) 10 (((b3 >>> (8 &&& 31)) &&& 255)))) 11 (((b3 >>> (0 &&& 31)) &&& 255)))))] _ := hP4
  replace hD4 : va_D A [(h0, .inr (13, (fs.set 0 (.int 0)))), (n0, .inr (14, [.ref na, .int 12])), (na, .inl (tA 0, 16, .inl (upd ((upd ((upd ((upd ((upd ((upd ((upd ((upd ((upd ((upd ((upd ((upd (f) 0 (((b1 >>> (24 &&& 31)) &&& 255)))) 1 (((b1 >>> (16 &&& 31)) &&& 255)))) 2 (((b1 >>> (8 &&& 31)) &&& 255)))) 3 (((b1 >>> (0 &&& 31)) &&& 255)))) 4 (((b2 >>> (24 &&& 31)) &&& 255)))) 5 (((b2 >>> (16 &&& 31)) &&& 255)))) 6 (((b2 >>> (8 &&& 31)) &&& 255)))) 7 (((b2 >>> (0 &&& 31)) &&& 255)))) 8 (((b3 >>> (24 &&& 31)) &&& 255)))) 9 (((b3 >>> (16 &&& 31)) &&& 255)))) 10 (((b3 >>> (8 &&& 31)) &&& 255)))) 11 (((b3 >>> (0 &&& 31)) &&& 255)))))] := hD4
  refine lv_aload_n hx hb d_MM_feed_38 rfl (lv_at hl 0 rfl) ?_
  refine lv_iload hx hb d_MM_feed_39 (lv_at hl 4 rfl) ?_
  refine zCallv (wc := [(h0, .inr (13, (fs.set 0 (.int 0)))), (n0, .inr (14, [.ref na, .int 12])), (na, .inl (tA 0, 16, .inl (upd ((upd ((upd ((upd ((upd ((upd ((upd ((upd ((upd ((upd ((upd ((upd (f) 0 (((b1 >>> (24 &&& 31)) &&& 255)))) 1 (((b1 >>> (16 &&& 31)) &&& 255)))) 2 (((b1 >>> (8 &&& 31)) &&& 255)))) 3 (((b1 >>> (0 &&& 31)) &&& 255)))) 4 (((b2 >>> (24 &&& 31)) &&& 255)))) 5 (((b2 >>> (16 &&& 31)) &&& 255)))) 6 (((b2 >>> (8 &&& 31)) &&& 255)))) 7 (((b2 >>> (0 &&& 31)) &&& 255)))) 8 (((b3 >>> (24 &&& 31)) &&& 255)))) 9 (((b3 >>> (16 &&& 31)) &&& 255)))) 10 (((b3 >>> (8 &&& 31)) &&& 255)))) 11 (((b3 >>> (0 &&& 31)) &&& 255)))))]) (wr := []) hP4 hD4 hS4 hA [0, 1, 2] [] rfl rfl (by decide) (by decide) (va_runV (As := [.int b4]) (rest := []) ⟨hx, hb, hml, hown, hg⟩ (c_MM_add4_at12 l D tA _ h0 n0 na (fs.set 0 (.int 0)) (upd ((upd ((upd ((upd ((upd ((upd ((upd ((upd ((upd ((upd ((upd ((upd (f) 0 (((b1 >>> (24 &&& 31)) &&& 255)))) 1 (((b1 >>> (16 &&& 31)) &&& 255)))) 2 (((b1 >>> (8 &&& 31)) &&& 255)))) 3 (((b1 >>> (0 &&& 31)) &&& 255)))) 4 (((b2 >>> (24 &&& 31)) &&& 255)))) 5 (((b2 >>> (16 &&& 31)) &&& 255)))) 6 (((b2 >>> (8 &&& 31)) &&& 255)))) 7 (((b2 >>> (0 &&& 31)) &&& 255)))) 8 (((b3 >>> (24 &&& 31)) &&& 255)))) 9 (((b3 >>> (16 &&& 31)) &&& 255)))) 10 (((b3 >>> (8 &&& 31)) &&& 255)))) 11 (((b3 >>> (0 &&& 31)) &&& 255))) b4 (zSetN (by decide) hh0_tape)) (zV 1 hg k10_237 k10_239 ks_MM_add4 k1_14 k11_0 rfl rfl (by decide +kernel) ⟨(Nat.le_of_ble_eq_true rfl), (Nat.le_of_ble_eq_true rfl)⟩) (zPreV hh hK hP4 hD4 [0, 1, 2] (by decide) rfl (ci := 13) rfl 0 rfl) rfl rfl hl.1 rfl (lv_room (Nat.le_of_ble_eq_true rfl)) d_MM_feed_41 ⟨(Nat.le_of_ble_eq_true rfl), (Nat.le_of_ble_eq_true rfl)⟩) (fun _ H5 locs5 _ hP5 hD5 hS5 => ?_)
  clear hP4 hD4 hS4
  replace hP5 : va_P D vwCl [(h0, .inr (13, (fs.set 0 (.int 0)))), (n0, .inr (14, [.ref na, .int 16])), (na, .inl (tA 0, 16, .inl (upd ((upd ((upd ((upd ((upd ((upd ((upd ((upd ((upd ((upd ((upd ((upd ((upd ((upd ((upd ((upd (f) 0 (((b1 >>> (24 &&& 31)) &&& 255)))) 1 (((b1 >>> (16 &&& 31)) &&& 255)))) 2 (((b1 >>> (8 &&& 31)) &&& 255)))) 3 (((b1 >>> (0 &&& 31)) &&& 255)))) 4 (((b2 >>> (24 &&& 31)) &&& 255)))) 5 (((b2 >>> (16 &&& 31)) &&& 255)))) 6 (((b2 >>> (8 &&& 31)) &&& 255)))) 7 (((b2 >>> (0 &&& 31)) &&& 255)))) 8 (((b3 >>> (24 &&& 31)) &&& 255)))) 9 (((b3 >>> (16 &&& 31)) &&& 255)))) 10 (((b3 >>> (8 &&& 31)) &&& 255)))) 11 (((b3 >>> (0 &&& 31)) &&& 255)))) 12 (((b4 >>> (24 &&& 31)) &&& 255)))) 13 (((b4 >>> (16 &&& 31)) &&& 255)))) 14 (((b4 >>> (8 &&& 31)) &&& 255)))) 15 (((b4 >>> (0 &&& 31)) &&& 255)))))] _ := hP5
  replace hD5 : va_D A [(h0, .inr (13, (fs.set 0 (.int 0)))), (n0, .inr (14, [.ref na, .int 16])), (na, .inl (tA 0, 16, .inl (upd ((upd ((upd ((upd ((upd ((upd ((upd ((upd ((upd ((upd ((upd ((upd ((upd ((upd ((upd ((upd (f) 0 (((b1 >>> (24 &&& 31)) &&& 255)))) 1 (((b1 >>> (16 &&& 31)) &&& 255)))) 2 (((b1 >>> (8 &&& 31)) &&& 255)))) 3 (((b1 >>> (0 &&& 31)) &&& 255)))) 4 (((b2 >>> (24 &&& 31)) &&& 255)))) 5 (((b2 >>> (16 &&& 31)) &&& 255)))) 6 (((b2 >>> (8 &&& 31)) &&& 255)))) 7 (((b2 >>> (0 &&& 31)) &&& 255)))) 8 (((b3 >>> (24 &&& 31)) &&& 255)))) 9 (((b3 >>> (16 &&& 31)) &&& 255)))) 10 (((b3 >>> (8 &&& 31)) &&& 255)))) 11 (((b3 >>> (0 &&& 31)) &&& 255)))) 12 (((b4 >>> (24 &&& 31)) &&& 255)))) 13 (((b4 >>> (16 &&& 31)) &&& 255)))) 14 (((b4 >>> (8 &&& 31)) &&& 255)))) 15 (((b4 >>> (0 &&& 31)) &&& 255)))))] := hD5
  refine lv_aload_n hx hb d_MM_feed_44 rfl (lv_at hl 0 rfl) ?_
  refine lv_iload hx hb d_MM_feed_45 (lv_at hl 5 rfl) ?_
  refine zCallv (wc := [(h0, .inr (13, (fs.set 0 (.int 0)))), (n0, .inr (14, [.ref na, .int 16])), (na, .inl (tA 0, 16, .inl (upd ((upd ((upd ((upd ((upd ((upd ((upd ((upd ((upd ((upd ((upd ((upd ((upd ((upd ((upd ((upd (f) 0 (((b1 >>> (24 &&& 31)) &&& 255)))) 1 (((b1 >>> (16 &&& 31)) &&& 255)))) 2 (((b1 >>> (8 &&& 31)) &&& 255)))) 3 (((b1 >>> (0 &&& 31)) &&& 255)))) 4 (((b2 >>> (24 &&& 31)) &&& 255)))) 5 (((b2 >>> (16 &&& 31)) &&& 255)))) 6 (((b2 >>> (8 &&& 31)) &&& 255)))) 7 (((b2 >>> (0 &&& 31)) &&& 255)))) 8 (((b3 >>> (24 &&& 31)) &&& 255)))) 9 (((b3 >>> (16 &&& 31)) &&& 255)))) 10 (((b3 >>> (8 &&& 31)) &&& 255)))) 11 (((b3 >>> (0 &&& 31)) &&& 255)))) 12 (((b4 >>> (24 &&& 31)) &&& 255)))) 13 (((b4 >>> (16 &&& 31)) &&& 255)))) 14 (((b4 >>> (8 &&& 31)) &&& 255)))) 15 (((b4 >>> (0 &&& 31)) &&& 255)))))]) (wr := []) hP5 hD5 hS5 hA [0, 1, 2] [] rfl rfl (by decide) (by decide) (va_runV (As := [.int b5]) (rest := []) ⟨hx, hb, hml, hown, hg⟩ (c_MM_add4_at16 l D tA _ h0 n0 na (fs.set 0 (.int 0)) (upd ((upd ((upd ((upd ((upd ((upd ((upd ((upd ((upd ((upd ((upd ((upd ((upd ((upd ((upd ((upd (f) 0 (((b1 >>> (24 &&& 31)) &&& 255)))) 1 (((b1 >>> (16 &&& 31)) &&& 255)))) 2 (((b1 >>> (8 &&& 31)) &&& 255)))) 3 (((b1 >>> (0 &&& 31)) &&& 255)))) 4 (((b2 >>> (24 &&& 31)) &&& 255)))) 5 (((b2 >>> (16 &&& 31)) &&& 255)))) 6 (((b2 >>> (8 &&& 31)) &&& 255)))) 7 (((b2 >>> (0 &&& 31)) &&& 255)))) 8 (((b3 >>> (24 &&& 31)) &&& 255)))) 9 (((b3 >>> (16 &&& 31)) &&& 255)))) 10 (((b3 >>> (8 &&& 31)) &&& 255)))) 11 (((b3 >>> (0 &&& 31)) &&& 255)))) 12 (((b4 >>> (24 &&& 31)) &&& 255)))) 13 (((b4 >>> (16 &&& 31)) &&& 255)))) 14 (((b4 >>> (8 &&& 31)) &&& 255)))) 15 (((b4 >>> (0 &&& 31)) &&& 255))) b5 (zSetN (by decide) hh0_tape)) (zV 1 hg k10_237 k10_239 ks_MM_add4 k1_14 k11_0 rfl rfl (by decide +kernel) ⟨(Nat.le_of_ble_eq_true rfl), (Nat.le_of_ble_eq_true rfl)⟩) (zPreV hh hK hP5 hD5 [0, 1, 2] (by decide) rfl (ci := 13) rfl 0 rfl) rfl rfl hl.1 rfl (lv_room (Nat.le_of_ble_eq_true rfl)) d_MM_feed_47 ⟨(Nat.le_of_ble_eq_true rfl), (Nat.le_of_ble_eq_true rfl)⟩) (fun qn H6 locs6 _ hP6 hD6 hS6 => ?_)
  clear hP5 hD5 hS5
  refine W.cs (cells' := 1) (slots' := 32) rfl rfl ?_
  replace hP6 : va_P D vwCl [(h0, .inr (13, (fs.set 0 (.int 0)))), (na, .inl (tA 0, 16, .inl (upd ((upd ((upd ((upd ((upd ((upd ((upd ((upd ((upd ((upd ((upd ((upd ((upd ((upd ((upd ((upd (f) 0 (((b1 >>> (24 &&& 31)) &&& 255)))) 1 (((b1 >>> (16 &&& 31)) &&& 255)))) 2 (((b1 >>> (8 &&& 31)) &&& 255)))) 3 (((b1 >>> (0 &&& 31)) &&& 255)))) 4 (((b2 >>> (24 &&& 31)) &&& 255)))) 5 (((b2 >>> (16 &&& 31)) &&& 255)))) 6 (((b2 >>> (8 &&& 31)) &&& 255)))) 7 (((b2 >>> (0 &&& 31)) &&& 255)))) 8 (((b3 >>> (24 &&& 31)) &&& 255)))) 9 (((b3 >>> (16 &&& 31)) &&& 255)))) 10 (((b3 >>> (8 &&& 31)) &&& 255)))) 11 (((b3 >>> (0 &&& 31)) &&& 255)))) 12 (((b4 >>> (24 &&& 31)) &&& 255)))) 13 (((b4 >>> (16 &&& 31)) &&& 255)))) 14 (((b4 >>> (8 &&& 31)) &&& 255)))) 15 (((b4 >>> (0 &&& 31)) &&& 255))))), (n0, .inr (14, [.ref qn, .int 20])), (qn, .inl (tA 0, 32, .inl (upd ((upd ((upd ((upd (fun j => if j < 16 then (upd ((upd ((upd ((upd ((upd ((upd ((upd ((upd ((upd ((upd ((upd ((upd ((upd ((upd ((upd ((upd (f) 0 (((b1 >>> (24 &&& 31)) &&& 255)))) 1 (((b1 >>> (16 &&& 31)) &&& 255)))) 2 (((b1 >>> (8 &&& 31)) &&& 255)))) 3 (((b1 >>> (0 &&& 31)) &&& 255)))) 4 (((b2 >>> (24 &&& 31)) &&& 255)))) 5 (((b2 >>> (16 &&& 31)) &&& 255)))) 6 (((b2 >>> (8 &&& 31)) &&& 255)))) 7 (((b2 >>> (0 &&& 31)) &&& 255)))) 8 (((b3 >>> (24 &&& 31)) &&& 255)))) 9 (((b3 >>> (16 &&& 31)) &&& 255)))) 10 (((b3 >>> (8 &&& 31)) &&& 255)))) 11 (((b3 >>> (0 &&& 31)) &&& 255)))) 12 (((b4 >>> (24 &&& 31)) &&& 255)))) 13 (((b4 >>> (16 &&& 31)) &&& 255)))) 14 (((b4 >>> (8 &&& 31)) &&& 255)))) 15 (((b4 >>> (0 &&& 31)) &&& 255))) j else 0) 16 (((b5 >>> (24 &&& 31)) &&& 255)))) 17 (((b5 >>> (16 &&& 31)) &&& 255)))) 18 (((b5 >>> (8 &&& 31)) &&& 255)))) 19 (((b5 >>> (0 &&& 31)) &&& 255)))))] _ := hP6
  replace hD6 : va_D A [(h0, .inr (13, (fs.set 0 (.int 0)))), (na, .inl (tA 0, 16, .inl (upd ((upd ((upd ((upd ((upd ((upd ((upd ((upd ((upd ((upd ((upd ((upd ((upd ((upd ((upd ((upd (f) 0 (((b1 >>> (24 &&& 31)) &&& 255)))) 1 (((b1 >>> (16 &&& 31)) &&& 255)))) 2 (((b1 >>> (8 &&& 31)) &&& 255)))) 3 (((b1 >>> (0 &&& 31)) &&& 255)))) 4 (((b2 >>> (24 &&& 31)) &&& 255)))) 5 (((b2 >>> (16 &&& 31)) &&& 255)))) 6 (((b2 >>> (8 &&& 31)) &&& 255)))) 7 (((b2 >>> (0 &&& 31)) &&& 255)))) 8 (((b3 >>> (24 &&& 31)) &&& 255)))) 9 (((b3 >>> (16 &&& 31)) &&& 255)))) 10 (((b3 >>> (8 &&& 31)) &&& 255)))) 11 (((b3 >>> (0 &&& 31)) &&& 255)))) 12 (((b4 >>> (24 &&& 31)) &&& 255)))) 13 (((b4 >>> (16 &&& 31)) &&& 255)))) 14 (((b4 >>> (8 &&& 31)) &&& 255)))) 15 (((b4 >>> (0 &&& 31)) &&& 255))))), (n0, .inr (14, [.ref qn, .int 20])), (qn, .inl (tA 0, 32, .inl (upd ((upd ((upd ((upd (fun j => if j < 16 then (upd ((upd ((upd ((upd ((upd ((upd ((upd ((upd ((upd ((upd ((upd ((upd ((upd ((upd ((upd ((upd (f) 0 (((b1 >>> (24 &&& 31)) &&& 255)))) 1 (((b1 >>> (16 &&& 31)) &&& 255)))) 2 (((b1 >>> (8 &&& 31)) &&& 255)))) 3 (((b1 >>> (0 &&& 31)) &&& 255)))) 4 (((b2 >>> (24 &&& 31)) &&& 255)))) 5 (((b2 >>> (16 &&& 31)) &&& 255)))) 6 (((b2 >>> (8 &&& 31)) &&& 255)))) 7 (((b2 >>> (0 &&& 31)) &&& 255)))) 8 (((b3 >>> (24 &&& 31)) &&& 255)))) 9 (((b3 >>> (16 &&& 31)) &&& 255)))) 10 (((b3 >>> (8 &&& 31)) &&& 255)))) 11 (((b3 >>> (0 &&& 31)) &&& 255)))) 12 (((b4 >>> (24 &&& 31)) &&& 255)))) 13 (((b4 >>> (16 &&& 31)) &&& 255)))) 14 (((b4 >>> (8 &&& 31)) &&& 255)))) 15 (((b4 >>> (0 &&& 31)) &&& 255))) j else 0) 16 (((b5 >>> (24 &&& 31)) &&& 255)))) 17 (((b5 >>> (16 &&& 31)) &&& 255)))) 18 (((b5 >>> (8 &&& 31)) &&& 255)))) 19 (((b5 >>> (0 &&& 31)) &&& 255)))))] := hD6
  refine lv_aload_n hx hb d_MM_feed_50 rfl (lv_at hl 0 rfl) ?_
  refine va_get (D := D) (ci := 13) (v := .ref n0) (C := R_MM) (T := T_MM) (N := 49) hx hb hg i_MM hown hK hP6 0 rfl rfl 1 (by decide) (hg _ k10_82) (fun _ h9 => h9) (zSetN (by decide) hh0_tape) d_MM_feed_51 ?_
  refine va_getN (D := D) (ci := 14) (v := .int 20) (C := R_MN) (T := T_MN) (N := 2) hx hb hg i_MN hown hK hP6 2 rfl rfl 1 (by decide) (hg _ k9_10) (fun _ h9 => h9) rfl d_MM_feed_54 ?_
  exact zZret (post := fun r (_ : Nat) => r = 20) (W1 := fun qn => [(h0, .inr (13, (fs.set 0 (.int 0)))), (na, .inl (tA 0, 16, .inl (upd ((upd ((upd ((upd ((upd ((upd ((upd ((upd ((upd ((upd ((upd ((upd ((upd ((upd ((upd ((upd (f) 0 (((b1 >>> (24 &&& 31)) &&& 255)))) 1 (((b1 >>> (16 &&& 31)) &&& 255)))) 2 (((b1 >>> (8 &&& 31)) &&& 255)))) 3 (((b1 >>> (0 &&& 31)) &&& 255)))) 4 (((b2 >>> (24 &&& 31)) &&& 255)))) 5 (((b2 >>> (16 &&& 31)) &&& 255)))) 6 (((b2 >>> (8 &&& 31)) &&& 255)))) 7 (((b2 >>> (0 &&& 31)) &&& 255)))) 8 (((b3 >>> (24 &&& 31)) &&& 255)))) 9 (((b3 >>> (16 &&& 31)) &&& 255)))) 10 (((b3 >>> (8 &&& 31)) &&& 255)))) 11 (((b3 >>> (0 &&& 31)) &&& 255)))) 12 (((b4 >>> (24 &&& 31)) &&& 255)))) 13 (((b4 >>> (16 &&& 31)) &&& 255)))) 14 (((b4 >>> (8 &&& 31)) &&& 255)))) 15 (((b4 >>> (0 &&& 31)) &&& 255))))), (n0, .inr (14, [.ref qn, .int 20])), (qn, .inl (tA 0, 32, .inl (upd ((upd ((upd ((upd (fun j => if j < 16 then (upd ((upd ((upd ((upd ((upd ((upd ((upd ((upd ((upd ((upd ((upd ((upd ((upd ((upd ((upd ((upd (f) 0 (((b1 >>> (24 &&& 31)) &&& 255)))) 1 (((b1 >>> (16 &&& 31)) &&& 255)))) 2 (((b1 >>> (8 &&& 31)) &&& 255)))) 3 (((b1 >>> (0 &&& 31)) &&& 255)))) 4 (((b2 >>> (24 &&& 31)) &&& 255)))) 5 (((b2 >>> (16 &&& 31)) &&& 255)))) 6 (((b2 >>> (8 &&& 31)) &&& 255)))) 7 (((b2 >>> (0 &&& 31)) &&& 255)))) 8 (((b3 >>> (24 &&& 31)) &&& 255)))) 9 (((b3 >>> (16 &&& 31)) &&& 255)))) 10 (((b3 >>> (8 &&& 31)) &&& 255)))) 11 (((b3 >>> (0 &&& 31)) &&& 255)))) 12 (((b4 >>> (24 &&& 31)) &&& 255)))) 13 (((b4 >>> (16 &&& 31)) &&& 255)))) 14 (((b4 >>> (8 &&& 31)) &&& 255)))) 15 (((b4 >>> (0 &&& 31)) &&& 255))) j else 0) 16 (((b5 >>> (24 &&& 31)) &&& 255)))) 17 (((b5 >>> (16 &&& 31)) &&& 255)))) 18 (((b5 >>> (8 &&& 31)) &&& 255)))) 19 (((b5 >>> (0 &&& 31)) &&& 255)))))]) (v := 20) hx hb hr rfl hlocks hP6 hD6 hS6 qn rfl rfl d_MM_feed_57
