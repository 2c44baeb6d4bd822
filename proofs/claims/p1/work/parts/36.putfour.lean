theorem k4_19 : (Jvm.Cond.code ({ cls := "ChanceArena", name := "putFour", desc := "(I)V" } : Jvm.MethodName) prog_1_method_4_code (3 : Nat) (Option.none : Option Jvm.ClassFile.FieldType)) ∈ lw_R := zR (zk_4 _ (List.mem_of_getElem? (i := 19) (by decide +kernel))) rfl
theorem d_CA_putFour_3 : decode prog_1_method_4_code 3 = .ok (.iload_n 2, 1) := dc9_28 (by decide +kernel)
theorem d_CA_putFour_4 : decode prog_1_method_4_code 4 = .ok (.ifCond .lt 33, 3) := dc9_155 (by decide +kernel)
theorem d_CA_putFour_7 : decode prog_1_method_4_code 7 = .ok (.aload_n 0, 1) := dc9_42 (by decide +kernel)
theorem d_CA_putFour_8 : decode prog_1_method_4_code 8 = .ok (.getfield 7, 3) := dc9_180 (by decide +kernel)
theorem d_CA_putFour_11 : decode prog_1_method_4_code 11 = .ok (.aload_n 0, 1) := dc9_42 (by decide +kernel)
theorem d_CA_putFour_12 : decode prog_1_method_4_code 12 = .ok (.dup, 1) := dc9_89 (by decide +kernel)
theorem d_CA_putFour_13 : decode prog_1_method_4_code 13 = .ok (.getfield 13, 3) := dc9_180 (by decide +kernel)
theorem d_CA_putFour_16 : decode prog_1_method_4_code 16 = .ok (.dup_x1, 1) := dc9_90 (by decide +kernel)
theorem d_CA_putFour_17 : decode prog_1_method_4_code 17 = .ok (.iconst 1, 1) := dc9_4 (by decide +kernel)
theorem d_CA_putFour_18 : decode prog_1_method_4_code 18 = .ok (.iadd, 1) := dc9_96 (by decide +kernel)
theorem d_CA_putFour_19 : decode prog_1_method_4_code 19 = .ok (.putfield 13, 3) := dc9_181 (by decide +kernel)
theorem d_CA_putFour_22 : decode prog_1_method_4_code 22 = .ok (.iload_n 1, 1) := dc9_27 (by decide +kernel)
theorem d_CA_putFour_23 : decode prog_1_method_4_code 23 = .ok (.iload_n 2, 1) := dc9_28 (by decide +kernel)
theorem d_CA_putFour_24 : decode prog_1_method_4_code 24 = .ok (.iushr, 1) := dc9_124 (by decide +kernel)
theorem d_CA_putFour_25 : decode prog_1_method_4_code 25 = .ok (.sipush 255, 3) := dc9_17 (by decide +kernel)
theorem d_CA_putFour_28 : decode prog_1_method_4_code 28 = .ok (.iand, 1) := dc9_126 (by decide +kernel)
theorem d_CA_putFour_29 : decode prog_1_method_4_code 29 = .ok (.i2c, 1) := dc9_146 (by decide +kernel)
theorem d_CA_putFour_30 : decode prog_1_method_4_code 30 = .ok (.castore, 1) := dc9_85 (by decide +kernel)
theorem d_CA_putFour_31 : decode prog_1_method_4_code 31 = .ok (.iinc 2 (-8), 3) := by decide +kernel
theorem d_CA_putFour_34 : decode prog_1_method_4_code 34 = .ok (.goto (-31), 3) := dc9_167 (by decide +kernel)
theorem d_CA_putFour_0 : decode prog_1_method_4_code 0 = .ok (.bipush 24, 2) := dc9_16 (by decide +kernel)
theorem d_CA_putFour_2 : decode prog_1_method_4_code 2 = .ok (.istore_n 2, 1) := dc9_61 (by decide +kernel)
theorem d_CA_putFour_37 : decode prog_1_method_4_code 37 = .ok (.return_, 1) := dc9_177 (by decide +kernel)
/-- the character that a shift takes out of four -/
abbrev chr4 (b sh : Int32) : Int32 := (((b.toUInt32 >>> (sh.toUInt32 &&& Int32.toUInt32 31)).toInt32 &&& 255).toUInt32 % 65536).toInt32
set_option maxHeartbeats 4000000 in
set_option maxRecDepth 100000 in
theorem putFour_step {p : Program} {l : Launch} {e : Env} {s : State} {m : MethodId} {args : Array Value} {below : List Frame} {meth : Method} {c : Code} {H : Heap} {locs : List Loc} {Q : State → Prop} {D : va_G} {tA : Nat → ClassId} {A : Nat → Prop} {h0 ta N k : Nat} {fs : List Value} {f : Nat → Int32} {b : Int32} {ls : Array Slot} (hx : p.tables.exec = Jvm.exec) (hb : c.code = prog_1_method_4_code) (hg : ∀ w ∈ lw_R, w.before args s = true) (hown : s.vm.findClass "ChanceArena" = some m.cls) (hK : va_K D vwCl (zT tA) s) (hk : k < N) (hN : N ≤ 32768) (htp : fs[0]? = some (.ref ta)) (hln : fs[1]? = some (.int (nI k))) (sh sh2 : Int32) (hsh : ¬ sh < 0) (hs2 : sh + Int32.ofInt (-8) = sh2) (hP : va_P D vwCl [(h0, .inr (0, fs)), (ta, .inl (tA 2, N, .inl (f)))] H) (hD : va_D A [(h0, .inr (0, fs)), (ta, .inl (tA 2, N, .inl (f)))]) (hS : va_S A s.heap H locs) (hl : lv_has ls 3 [(2, .int sh), (0, .ref h0), (1, .int b)])
    (kk : ∀ (H1 : Heap) (locs1 : List Loc) (ls1 : Array Slot), va_P D vwCl [(h0, .inr (0, (fs.set 1 (.int (nI (k + 1)))))), (ta, .inl (tA 2, N, .inl (upd f k (chr4 b sh))))] H1 → va_D A [(h0, .inr (0, (fs.set 1 (.int (nI (k + 1)))))), (ta, .inl (tA 2, N, .inl (upd f k (chr4 b sh))))] → va_S A s.heap H1 locs1 → lv_has ls1 3 [(2, .int sh2), (0, .ref h0), (1, .int b)] → W p l e { frames := 0, cells := 0, slots := 0, locals := 0 } s m args below meth c H1 locs1 0 0 Q (F0 m 3 ls1 [])) : W p l e { frames := 0, cells := 0, slots := 0, locals := 0 } s m args below meth c H locs 0 0 Q (F0 m 3 ls []) := by
  refine lv_iload_n hx hb d_CA_putFour_3 rfl (lv_at hl 0 rfl) ?_
  refine lv_if_lt (tgt := 37) hx hb d_CA_putFour_4 (by decide) (fun c9 => absurd c9 hsh) (fun _ => ?_)
  refine lv_aload_n hx hb d_CA_putFour_7 rfl (lv_at hl 1 rfl) ?_
  refine va_get (D := D) (ci := 0) (v := .ref ta) (C := R_CA) (T := T_CA) (N := 19) hx hb hg i_CA hown hK hP 0 rfl rfl 0 (by decide) (hg _ k3_187) (fun _ h9 => h9) htp d_CA_putFour_8 ?_
  refine lv_aload_n hx hb d_CA_putFour_11 rfl (lv_at hl 1 rfl) ?_
  refine lv_dup hx hb d_CA_putFour_12 rfl ?_
  refine va_get (D := D) (ci := 0) (v := .int (nI k)) (C := R_CA) (T := T_CA) (N := 19) hx hb hg i_CA hown hK hP 0 rfl rfl 1 (by decide) (hg _ k3_188) (fun _ h9 => h9) hln d_CA_putFour_13 ?_
  refine lv_dup_x1 hx hb d_CA_putFour_16 rfl rfl ?_
  refine lv_iconst (v := 1) hx hb d_CA_putFour_17 (by decide) ?_
  refine lv_iadd hx hb d_CA_putFour_18 ?_
  rw [nI_1]
  refine va_put (D := D) (ci := 0) (v := .int (nI (k + 1))) (ty := .int) (C := R_CA) (T := T_CA) (N := 19) hx hb hg i_CA t_CA o_CA n_CA hown hK hP hD hS 0 rfl rfl 1 (by decide) (hg _ k3_188) (fun _ h9 => h9) rfl (by decide +kernel) rfl rfl (zLen hln) d_CA_putFour_19 (fun H1 locs1 hP1 hD1 hS1 => ?_)
  clear hP hD hS
  refine lv_iload_n hx hb d_CA_putFour_22 rfl (lv_at hl 2 rfl) ?_
  refine lv_iload_n hx hb d_CA_putFour_23 rfl (lv_at hl 0 rfl) ?_
  refine lv_iushr hx hb d_CA_putFour_24 rfl ?_
  refine lv_sipush (v := 255) hx hb d_CA_putFour_25 (by decide) ?_
  refine lv_iand hx hb d_CA_putFour_28 ?_
  refine lv_i2c hx hb d_CA_putFour_29 rfl ?_
  refine va_cast hx hb hK hP1 hD1 hS1 1 2 rfl rfl (vp_in_nI hk (by omega)) d_CA_putFour_30 (fun H2 locs2 hP2 hD2 hS2 => ?_)
  clear hP1 hD1 hS1
  rw [nI_clamp (by omega), pk_vc] at hP2 hD2
  refine lv_iinc (v := sh2) (lv' := [(2, .int sh2), (0, .ref h0), (1, .int b)]) hx hb d_CA_putFour_31 hl (k := 0) rfl hs2 (by decide) rfl (fun ls hl => ?_)
  refine lv_goto (tgt := 3) hx hb d_CA_putFour_34 (by decide) ?_
  exact kk _ _ _ hP2 hD2 hS2 hl
set_option maxHeartbeats 4000000 in
set_option maxRecDepth 100000 in
theorem c_CA_putFour (l : Launch) (D : va_G) (tA : Nat → ClassId) (sz h0 ta N k : Nat) (fs : List Value) (f : Nat → Int32) (b : Int32) (hk : k + 4 ≤ N) (hN : N ≤ 32768) (htp : fs[0]? = some (.ref ta)) (hln : fs[1]? = some (.int (nI k))) : zMv l ({ cls := "ChanceArena", name := "putFour", desc := "(I)V" } : Jvm.MethodName) (zW (Jvm.Cond.code ({ cls := "ChanceArena", name := "putFour", desc := "(I)V" } : Jvm.MethodName) prog_1_method_4_code (3 : Nat) (Option.none : Option Jvm.ClassFile.FieldType))) { frames := 0, cells := 0, slots := 0, locals := 0 } [.ref h0, .int b] D tA [(h0, .inr (0, fs)), (ta, .inl (tA 2, N, .inl (f)))] sz (fun _ : Unit => True) (fun _ => [(h0, .inr (0, (fs.set 1 (.int (nI (k + 4)))))), (ta, .inl (tA 2, N, .inl (upd (upd (upd (upd f k (chr4 b 24)) (k + 1) (chr4 b 16)) (k + 1 + 1) (chr4 b 8)) (k + 1 + 1 + 1) (chr4 b 0))))]) 0 0 := by
  refine zOpen (fun A => va_Qv (fun _ : Unit => True) (zPost D A (fun _ => [(h0, .inr (0, (fs.set 1 (.int (nI (k + 4)))))), (ta, .inl (tA 2, N, .inl (upd (upd (upd (upd f k (chr4 b 24)) (k + 1) (chr4 b 16)) (k + 1 + 1) (chr4 b 8)) (k + 1 + 1 + 1) (chr4 b 0))))])) A) (lv := [(0, .ref h0), (1, .int b)]) (by decide) rfl (Nat.le_of_ble_eq_true rfl) rfl ?_
  intro p e s m below meth c A ls hx hb hr hml hh hg hown hlocks hnm hK hA hP hD0 hAw hS hl
  have hD := zD hD0 hAw
  refine lv_bipush (v := 24) hx hb d_CA_putFour_0 (by decide) ?_
  refine lv_istore_n (lv' := [(2, .int 24), (0, .ref h0), (1, .int b)]) hx hb d_CA_putFour_2 rfl hl (by decide) rfl (fun ls hl => ?_)
  refine putFour_step hx hb hg hown hK (by omega) hN htp hln 24 16 (by decide) (by decide) hP hD hS hl ?_
  clear hP hD hS hl
  intro H locs ls hP hD hS hl
  refine putFour_step hx hb hg hown hK (by omega) hN (zSetN (by decide) htp) (zSetS hln) 16 8 (by decide) (by decide) hP hD hS hl ?_
  clear hP hD hS hl
  intro H locs ls hP hD hS hl
  refine putFour_step hx hb hg hown hK (by omega) hN (zSetN (by decide) (zSetN (by decide) htp)) (zSetS (zSetS hln)) 8 0 (by decide) (by decide) hP hD hS hl ?_
  clear hP hD hS hl
  intro H locs ls hP hD hS hl
  refine putFour_step hx hb hg hown hK (by omega) hN (zSetN (by decide) (zSetN (by decide) (zSetN (by decide) htp))) (zSetS (zSetS (zSetS hln))) 0 (-8) (by decide) (by decide) hP hD hS hl ?_
  clear hP hD hS hl
  intro H locs ls hP hD hS hl
  refine lv_iload_n hx hb d_CA_putFour_3 rfl (lv_at hl 0 rfl) ?_
  refine lv_if_lt (tgt := 37) hx hb d_CA_putFour_4 (by decide) (fun c9 => ?_) (fun c9 => absurd (by decide) c9)
  exact zVret (post := fun _ : Unit => True) (W1 := fun _ => [(h0, .inr (0, (fs.set 1 (.int (nI (k + 4)))))), (ta, .inl (tA 2, N, .inl (upd (upd (upd (upd f k (chr4 b 24)) (k + 1) (chr4 b 16)) (k + 1 + 1) (chr4 b 8)) (k + 1 + 1 + 1) (chr4 b 0))))]) hx hb hr hlocks hP hD hS () trivial (by rw [List.set_set, List.set_set, List.set_set]) d_CA_putFour_37
