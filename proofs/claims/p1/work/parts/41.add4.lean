theorem k11_0 : (Jvm.Cond.code ({ cls := "ChanceArenaModel", name := "add4", desc := "(I)V" } : Jvm.MethodName) prog_15_method_4_code (3 : Nat) (Option.none : Option Jvm.ClassFile.FieldType)) ∈ lw_R := zR (zk_11 _ (List.mem_of_getElem? (i := 0) (by decide +kernel))) rfl
theorem k11_1 : (Jvm.Cond.methodLink "ChanceArenaModel" (152 : Nat) ({ cls := "ChanceArenaModel$Numbers", name := "add", desc := "(I)V" } : Jvm.MethodName)) ∈ lw_R := zR (zk_11 _ (List.mem_of_getElem? (i := 1) (by decide +kernel))) rfl
theorem k11_2 : (Jvm.Cond.instanceMethod ({ cls := "ChanceArenaModel$Numbers", name := "add", desc := "(I)V" } : Jvm.MethodName)) ∈ lw_R := zR (zk_11 _ (List.mem_of_getElem? (i := 2) (by decide +kernel))) rfl
theorem k11_3 : (Jvm.Cond.selects "ChanceArenaModel$Numbers" ({ cls := "ChanceArenaModel$Numbers", name := "add", desc := "(I)V" } : Jvm.MethodName) ({ cls := "ChanceArenaModel$Numbers", name := "add", desc := "(I)V" } : Jvm.MethodName)) ∈ lw_R := zR (zk_11 _ (List.mem_of_getElem? (i := 3) (by decide +kernel))) rfl
theorem d_MM_add4_3 : decode prog_15_method_4_code 3 = .ok (.iload_n 2, 1) := dc9_28 (by decide +kernel)
theorem d_MM_add4_4 : decode prog_15_method_4_code 4 = .ok (.ifCond .lt 23, 3) := dc9_155 (by decide +kernel)
theorem d_MM_add4_7 : decode prog_15_method_4_code 7 = .ok (.aload_n 0, 1) := dc9_42 (by decide +kernel)
theorem d_MM_add4_8 : decode prog_15_method_4_code 8 = .ok (.getfield 10, 3) := dc9_180 (by decide +kernel)
theorem d_MM_add4_11 : decode prog_15_method_4_code 11 = .ok (.iload_n 1, 1) := dc9_27 (by decide +kernel)
theorem d_MM_add4_12 : decode prog_15_method_4_code 12 = .ok (.iload_n 2, 1) := dc9_28 (by decide +kernel)
theorem d_MM_add4_13 : decode prog_15_method_4_code 13 = .ok (.ishr, 1) := dc9_122 (by decide +kernel)
theorem d_MM_add4_14 : decode prog_15_method_4_code 14 = .ok (.sipush 255, 3) := dc9_17 (by decide +kernel)
theorem d_MM_add4_17 : decode prog_15_method_4_code 17 = .ok (.iand, 1) := dc9_126 (by decide +kernel)
theorem d_MM_add4_18 : decode prog_15_method_4_code 18 = .ok (.invokevirtual 152, 3) := dc9_182 (by decide +kernel)
theorem d_MM_add4_21 : decode prog_15_method_4_code 21 = .ok (.iinc 2 (-8), 3) := by decide +kernel
theorem d_MM_add4_24 : decode prog_15_method_4_code 24 = .ok (.goto (-21), 3) := dc9_167 (by decide +kernel)
theorem d_MM_add4_0 : decode prog_15_method_4_code 0 = .ok (.bipush 24, 2) := dc9_16 (by decide +kernel)
theorem d_MM_add4_2 : decode prog_15_method_4_code 2 = .ok (.istore_n 2, 1) := dc9_61 (by decide +kernel)
theorem d_MM_add4_27 : decode prog_15_method_4_code 27 = .ok (.return_, 1) := dc9_177 (by decide +kernel)
abbrev by4 (b sh : Int32) : Int32 := (b >>> (sh &&& 31)) &&& 255
set_option maxHeartbeats 4000000 in
set_option maxRecDepth 100000 in
theorem add4_step {p : Program} {l : Launch} {e : Env} {s : State} {m : MethodId} {args : Array Value} {below : List Frame} {meth : Method} {c : Code} {H : Heap} {locs : List Loc} {Q : State → Prop} {D : va_G} {tA : Nat → ClassId} {A : Nat → Prop} {h0 n0 a N k : Nat} {fs : List Value} {f : Nat → Int32} {b : Int32} {ls : Array Slot} (hx : p.tables.exec = Jvm.exec) (hb : c.code = prog_15_method_4_code) (hml : c.maxLocals = 3) (hh : zH s) (hg : ∀ w ∈ lw_R, w.before args s = true) (hown : s.vm.findClass "ChanceArenaModel" = some m.cls) (hK : va_K D vwCl (zT tA) s) (hA : ∀ q, s.heap.size ≤ q → A q) (hk : k < N) (hN : N ≤ 1048576) (htp : fs[1]? = some (.ref n0)) (sh sh2 : Int32) (hsh : ¬ sh < 0) (hs2 : sh + Int32.ofInt (-8) = sh2) (hP : va_P D vwCl [(h0, .inr (13, fs)), (n0, .inr (14, [.ref a, .int (nI (k))])), (a, .inl (tA 0, N, .inl (f)))] H) (hD : va_D A [(h0, .inr (13, fs)), (n0, .inr (14, [.ref a, .int (nI (k))])), (a, .inl (tA 0, N, .inl (f)))]) (hS : va_S A s.heap H locs) (hl : lv_has ls 3 [(2, .int sh), (0, .ref h0), (1, .int b)])
    (kk : ∀ (H1 : Heap) (locs1 : List Loc) (ls1 : Array Slot), va_P D vwCl [(h0, .inr (13, fs)), (n0, .inr (14, [.ref a, .int (nI (k + 1))])), (a, .inl (tA 0, N, .inl (upd f k (by4 b sh))))] H1 → va_D A [(h0, .inr (13, fs)), (n0, .inr (14, [.ref a, .int (nI (k + 1))])), (a, .inl (tA 0, N, .inl (upd f k (by4 b sh))))] → va_S A s.heap H1 locs1 → lv_has ls1 3 [(2, .int sh2), (0, .ref h0), (1, .int b)] → W p l e { frames := 1, cells := 0, slots := 0, locals := 23 } s m args below meth c H1 locs1 0 0 Q (F0 m 3 ls1 [])) : W p l e { frames := 1, cells := 0, slots := 0, locals := 23 } s m args below meth c H locs 0 0 Q (F0 m 3 ls []) := by
  refine lv_iload_n hx hb d_MM_add4_3 rfl (lv_at hl 0 rfl) ?_
  refine lv_if_lt (tgt := 27) hx hb d_MM_add4_4 (by decide) (fun c9 => absurd c9 hsh) (fun _ => ?_)
  refine lv_aload_n hx hb d_MM_add4_7 rfl (lv_at hl 1 rfl) ?_
  refine va_get (D := D) (ci := 13) (v := .ref n0) (C := R_MM) (T := T_MM) (N := 49) hx hb hg i_MM hown hK hP 0 rfl rfl 1 (by decide) (hg _ k10_82) (fun _ h9 => h9) htp d_MM_add4_8 ?_
  refine lv_iload_n hx hb d_MM_add4_11 rfl (lv_at hl 2 rfl) ?_
  refine lv_iload_n hx hb d_MM_add4_12 rfl (lv_at hl 0 rfl) ?_
  refine lv_ishr hx hb d_MM_add4_13 ?_
  refine lv_sipush (v := 255) hx hb d_MM_add4_14 (by decide) ?_
  refine lv_iand hx hb d_MM_add4_17 ?_
  refine zCallv (wc := [(n0, .inr (14, [.ref a, .int (nI k)])), (a, .inl (tA 0, N, .inl f))]) (wr := [(h0, .inr (13, fs))]) hP hD hS hA [1, 2] [0] rfl rfl (by decide) (by decide) (va_runV (As := [.int (by4 b sh)]) (rest := []) ⟨hx, hb, hml, hown, hg⟩ (c_MN_add_room l D tA _ n0 a N k f (by4 b sh) hk hN) (zV 1 hg k11_1 k11_2 k11_3 k1_15 k11_4 rfl rfl (by decide +kernel) ⟨(Nat.le_of_ble_eq_true rfl), (Nat.le_of_ble_eq_true rfl)⟩) (zPreV hh hK hP hD [1, 2] (by decide) rfl (ci := 14) rfl 0 rfl) rfl rfl hl.1 rfl (lv_room (Nat.le_of_ble_eq_true rfl)) d_MM_add4_18 ⟨(Nat.le_of_ble_eq_true rfl), (Nat.le_of_ble_eq_true rfl)⟩) (fun _ H1 locs1 _ hP1 hD1 hS1 => ?_)
  clear hP hD hS
  refine lv_iinc (v := sh2) (lv' := [(2, .int sh2), (0, .ref h0), (1, .int b)]) hx hb d_MM_add4_21 hl (k := 0) rfl hs2 (by decide) rfl (fun ls hl => ?_)
  refine lv_goto (tgt := 3) hx hb d_MM_add4_24 (by decide) ?_
  exact kk _ _ _ hP1 hD1 hS1 hl
set_option maxHeartbeats 4000000 in
set_option maxRecDepth 100000 in
theorem c_MM_add4_room (l : Launch) (D : va_G) (tA : Nat → ClassId) (sz h0 n0 a N k : Nat) (fs : List Value) (f : Nat → Int32) (b : Int32) (hk : k + 4 ≤ N) (hN : N ≤ 1048576) (htp : fs[1]? = some (.ref n0)) : zMv l ({ cls := "ChanceArenaModel", name := "add4", desc := "(I)V" } : Jvm.MethodName) (zW (Jvm.Cond.code ({ cls := "ChanceArenaModel", name := "add4", desc := "(I)V" } : Jvm.MethodName) prog_15_method_4_code (3 : Nat) (Option.none : Option Jvm.ClassFile.FieldType))) { frames := 1, cells := 0, slots := 0, locals := 23 } [.ref h0, .int b] D tA [(h0, .inr (13, fs)), (n0, .inr (14, [.ref a, .int (nI (k))])), (a, .inl (tA 0, N, .inl (f)))] sz (fun _ : Unit => True) (fun _ => [(h0, .inr (13, fs)), (n0, .inr (14, [.ref a, .int (nI (k + 1 + 1 + 1 + 1))])), (a, .inl (tA 0, N, .inl (upd (upd (upd (upd f k (by4 b 24)) (k + 1) (by4 b 16)) (k + 1 + 1) (by4 b 8)) (k + 1 + 1 + 1) (by4 b 0))))]) 0 0 := by
  refine zOpen (fun A => va_Qv (fun _ : Unit => True) (zPost D A (fun _ => [(h0, .inr (13, fs)), (n0, .inr (14, [.ref a, .int (nI (k + 1 + 1 + 1 + 1))])), (a, .inl (tA 0, N, .inl (upd (upd (upd (upd f k (by4 b 24)) (k + 1) (by4 b 16)) (k + 1 + 1) (by4 b 8)) (k + 1 + 1 + 1) (by4 b 0))))])) A) (lv := [(0, .ref h0), (1, .int b)]) (by decide) rfl (Nat.le_of_ble_eq_true rfl) rfl ?_
  intro p e s m below meth c A ls hx hb hr hml hh hg hown hlocks hnm hK hA hP hD0 hAw hS hl
  have hD := zD hD0 hAw
  refine lv_bipush (v := 24) hx hb d_MM_add4_0 (by decide) ?_
  refine lv_istore_n (lv' := [(2, .int 24), (0, .ref h0), (1, .int b)]) hx hb d_MM_add4_2 rfl hl (by decide) rfl (fun ls hl => ?_)
  refine add4_step hx hb hml hh hg hown hK hA (by omega) hN htp 24 16 (by decide) (by decide) hP hD hS hl ?_
  clear hP hD hS hl
  intro H locs ls hP hD hS hl
  refine add4_step hx hb hml hh hg hown hK hA (by omega) hN htp 16 8 (by decide) (by decide) hP hD hS hl ?_
  clear hP hD hS hl
  intro H locs ls hP hD hS hl
  refine add4_step hx hb hml hh hg hown hK hA (by omega) hN htp 8 0 (by decide) (by decide) hP hD hS hl ?_
  clear hP hD hS hl
  intro H locs ls hP hD hS hl
  refine add4_step hx hb hml hh hg hown hK hA (by omega) hN htp 0 (-8) (by decide) (by decide) hP hD hS hl ?_
  clear hP hD hS hl
  intro H locs ls hP hD hS hl
  refine lv_iload_n hx hb d_MM_add4_3 rfl (lv_at hl 0 rfl) ?_
  refine lv_if_lt (tgt := 27) hx hb d_MM_add4_4 (by decide) (fun c9 => ?_) (fun c9 => absurd (by decide) c9)
  exact zVret (post := fun _ : Unit => True) (W1 := fun _ => [(h0, .inr (13, fs)), (n0, .inr (14, [.ref a, .int (nI (k + 1 + 1 + 1 + 1))])), (a, .inl (tA 0, N, .inl (upd (upd (upd (upd f k (by4 b 24)) (k + 1) (by4 b 16)) (k + 1 + 1) (by4 b 8)) (k + 1 + 1 + 1) (by4 b 0))))]) hx hb hr hlocks hP hD hS () trivial rfl d_MM_add4_27
