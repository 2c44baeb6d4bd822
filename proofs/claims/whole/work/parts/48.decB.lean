theorem k10_229 : (Jvm.Cond.code ({ cls := "ChanceArenaModel", name := "letter", desc := "(I)I" } : Jvm.MethodName) prog_15_method_6_code (2 : Nat) (Option.some Jvm.ClassFile.FieldType.int)) ∈ lw_R := zR (zk_10 _ (List.mem_of_getElem? (i := 229) (by decide +kernel))) rfl
theorem k10_236 : (Jvm.Cond.code ({ cls := "ChanceArenaModel", name := "isBlank", desc := "(I)Z" } : Jvm.MethodName) prog_15_method_9_code (1 : Nat) (Option.some Jvm.ClassFile.FieldType.boolean)) ∈ lw_R := zR (zk_10 _ (List.mem_of_getElem? (i := 236) (by decide +kernel))) rfl
theorem k10_239 : (Jvm.Cond.code ({ cls := "ChanceArenaModel", name := "isLetter", desc := "(I)Z" } : Jvm.MethodName) prog_15_method_7_code (1 : Nat) (Option.some Jvm.ClassFile.FieldType.boolean)) ∈ lw_R := zR (zk_10 _ (List.mem_of_getElem? (i := 239) (by decide +kernel))) rfl
theorem k11_2 : (Jvm.Cond.code ({ cls := "ChanceArenaModel", name := "isDigit", desc := "(I)Z" } : Jvm.MethodName) prog_15_method_8_code (1 : Nat) (Option.some Jvm.ClassFile.FieldType.boolean)) ∈ lw_R := zR (zk_11 _ (List.mem_of_getElem? (i := 2) (by decide +kernel))) rfl
theorem k11_180 : (Jvm.Cond.code ({ cls := "ChanceArenaModel$Numbers", name := "last", desc := "()I" } : Jvm.MethodName) prog_18_method_4_code (1 : Nat) (Option.some Jvm.ClassFile.FieldType.int)) ∈ lw_R := zR (zk_11 _ (List.mem_of_getElem? (i := 180) (by decide +kernel))) rfl
theorem d_MN_last_0 : decode prog_18_method_4_code 0 = .ok (.aload_n 0, 1) := by decide +kernel
theorem d_MN_last_1 : decode prog_18_method_4_code 1 = .ok (.getfield 7, 3) := by decide +kernel
theorem d_MN_last_4 : decode prog_18_method_4_code 4 = .ok (.aload_n 0, 1) := by decide +kernel
theorem d_MN_last_5 : decode prog_18_method_4_code 5 = .ok (.getfield 13, 3) := by decide +kernel
theorem d_MN_last_8 : decode prog_18_method_4_code 8 = .ok (.iconst 1, 1) := by decide +kernel
theorem d_MN_last_9 : decode prog_18_method_4_code 9 = .ok (.isub, 1) := by decide +kernel
theorem d_MN_last_10 : decode prog_18_method_4_code 10 = .ok (.iaload, 1) := by decide +kernel
theorem d_MN_last_11 : decode prog_18_method_4_code 11 = .ok (.ireturn, 1) := by decide +kernel
theorem d_MM_letter_0 : decode prog_15_method_6_code 0 = .ok (.iload_n 1, 1) := by decide +kernel
theorem d_MM_letter_1 : decode prog_15_method_6_code 1 = .ok (.aload_n 0, 1) := by decide +kernel
theorem d_MM_letter_2 : decode prog_15_method_6_code 2 = .ok (.getfield 16, 3) := by decide +kernel
theorem d_MM_letter_5 : decode prog_15_method_6_code 5 = .ok (.getfield 145, 3) := by decide +kernel
theorem d_MM_letter_8 : decode prog_15_method_6_code 8 = .ok (.if_icmp .ge 14, 3) := by decide +kernel
theorem d_MM_letter_22 : decode prog_15_method_6_code 22 = .ok (.iconst 0, 1) := by decide +kernel
theorem d_MM_letter_23 : decode prog_15_method_6_code 23 = .ok (.ireturn, 1) := by decide +kernel
theorem d_MM_letter_11 : decode prog_15_method_6_code 11 = .ok (.aload_n 0, 1) := by decide +kernel
theorem d_MM_letter_12 : decode prog_15_method_6_code 12 = .ok (.getfield 16, 3) := by decide +kernel
theorem d_MM_letter_15 : decode prog_15_method_6_code 15 = .ok (.iload_n 1, 1) := by decide +kernel
theorem d_MM_letter_16 : decode prog_15_method_6_code 16 = .ok (.invokevirtual 155, 3) := by decide +kernel
theorem d_MM_letter_19 : decode prog_15_method_6_code 19 = .ok (.goto 4, 3) := by decide +kernel
theorem d_MM_isLetter_0 : decode prog_15_method_7_code 0 = .ok (.iload_n 0, 1) := by decide +kernel
theorem d_MM_isLetter_1 : decode prog_15_method_7_code 1 = .ok (.bipush 97, 2) := by decide +kernel
theorem d_MM_isLetter_3 : decode prog_15_method_7_code 3 = .ok (.if_icmp .lt 9, 3) := by decide +kernel
theorem d_MM_isLetter_12 : decode prog_15_method_7_code 12 = .ok (.iload_n 0, 1) := by decide +kernel
theorem d_MM_isLetter_13 : decode prog_15_method_7_code 13 = .ok (.bipush 65, 2) := by decide +kernel
theorem d_MM_isLetter_15 : decode prog_15_method_7_code 15 = .ok (.if_icmp .lt 13, 3) := by decide +kernel
theorem d_MM_isLetter_28 : decode prog_15_method_7_code 28 = .ok (.iconst 0, 1) := by decide +kernel
theorem d_MM_isLetter_29 : decode prog_15_method_7_code 29 = .ok (.ireturn, 1) := by decide +kernel
theorem d_MM_isLetter_18 : decode prog_15_method_7_code 18 = .ok (.iload_n 0, 1) := by decide +kernel
theorem d_MM_isLetter_19 : decode prog_15_method_7_code 19 = .ok (.bipush 90, 2) := by decide +kernel
theorem d_MM_isLetter_21 : decode prog_15_method_7_code 21 = .ok (.if_icmp .gt 7, 3) := by decide +kernel
theorem d_MM_isLetter_24 : decode prog_15_method_7_code 24 = .ok (.iconst 1, 1) := by decide +kernel
theorem d_MM_isLetter_25 : decode prog_15_method_7_code 25 = .ok (.goto 4, 3) := by decide +kernel
theorem d_MM_isLetter_6 : decode prog_15_method_7_code 6 = .ok (.iload_n 0, 1) := by decide +kernel
theorem d_MM_isLetter_7 : decode prog_15_method_7_code 7 = .ok (.bipush 122, 2) := by decide +kernel
theorem d_MM_isLetter_9 : decode prog_15_method_7_code 9 = .ok (.if_icmp .le 15, 3) := by decide +kernel
theorem d_MM_isDigit_0 : decode prog_15_method_8_code 0 = .ok (.iload_n 0, 1) := by decide +kernel
theorem d_MM_isDigit_1 : decode prog_15_method_8_code 1 = .ok (.bipush 48, 2) := by decide +kernel
theorem d_MM_isDigit_3 : decode prog_15_method_8_code 3 = .ok (.if_icmp .lt 13, 3) := by decide +kernel
theorem d_MM_isDigit_16 : decode prog_15_method_8_code 16 = .ok (.iconst 0, 1) := by decide +kernel
theorem d_MM_isDigit_17 : decode prog_15_method_8_code 17 = .ok (.ireturn, 1) := by decide +kernel
theorem d_MM_isDigit_6 : decode prog_15_method_8_code 6 = .ok (.iload_n 0, 1) := by decide +kernel
theorem d_MM_isDigit_7 : decode prog_15_method_8_code 7 = .ok (.bipush 57, 2) := by decide +kernel
theorem d_MM_isDigit_9 : decode prog_15_method_8_code 9 = .ok (.if_icmp .gt 7, 3) := by decide +kernel
theorem d_MM_isDigit_12 : decode prog_15_method_8_code 12 = .ok (.iconst 1, 1) := by decide +kernel
theorem d_MM_isDigit_13 : decode prog_15_method_8_code 13 = .ok (.goto 4, 3) := by decide +kernel
theorem d_MM_isBlank_0 : decode prog_15_method_9_code 0 = .ok (.iload_n 0, 1) := by decide +kernel
theorem d_MM_isBlank_1 : decode prog_15_method_9_code 1 = .ok (.bipush 9, 2) := by decide +kernel
theorem d_MM_isBlank_3 : decode prog_15_method_9_code 3 = .ok (.if_icmp .eq 21, 3) := by decide +kernel
theorem d_MM_isBlank_24 : decode prog_15_method_9_code 24 = .ok (.iconst 1, 1) := by decide +kernel
theorem d_MM_isBlank_25 : decode prog_15_method_9_code 25 = .ok (.goto 4, 3) := by decide +kernel
theorem d_MM_isBlank_29 : decode prog_15_method_9_code 29 = .ok (.ireturn, 1) := by decide +kernel
theorem d_MM_isBlank_6 : decode prog_15_method_9_code 6 = .ok (.iload_n 0, 1) := by decide +kernel
theorem d_MM_isBlank_7 : decode prog_15_method_9_code 7 = .ok (.bipush 10, 2) := by decide +kernel
theorem d_MM_isBlank_9 : decode prog_15_method_9_code 9 = .ok (.if_icmp .eq 15, 3) := by decide +kernel
theorem d_MM_isBlank_12 : decode prog_15_method_9_code 12 = .ok (.iload_n 0, 1) := by decide +kernel
theorem d_MM_isBlank_13 : decode prog_15_method_9_code 13 = .ok (.bipush 13, 2) := by decide +kernel
theorem d_MM_isBlank_15 : decode prog_15_method_9_code 15 = .ok (.if_icmp .eq 9, 3) := by decide +kernel
theorem d_MM_isBlank_18 : decode prog_15_method_9_code 18 = .ok (.iload_n 0, 1) := by decide +kernel
theorem d_MM_isBlank_19 : decode prog_15_method_9_code 19 = .ok (.bipush 32, 2) := by decide +kernel
theorem d_MM_isBlank_21 : decode prog_15_method_9_code 21 = .ok (.if_icmp .ne 7, 3) := by decide +kernel
theorem d_MM_isBlank_28 : decode prog_15_method_9_code 28 = .ok (.iconst 0, 1) := by decide +kernel
def f_MN_at (h0_all_n : Nat) (l1 : Int32) (h0_all_c : Nat → Int32) : Option (Int32) := chk (0 ≤ (l1 : Int32).toInt ∧ (l1 : Int32).toInt < h0_all_n) (some ((h0_all_c (l1 : Int32).toNatClampNeg)))
set_option maxHeartbeats 4000000 in
set_option maxRecDepth 100000 in
theorem b_MN_at_0 {p : Program} {l : Launch} {e : Env} {s : State} {m : MethodId} {args : Array Value} {below : List Frame} {meth : Method} {c : Code} {D : va_G} {tA : Nat → ClassId} {A : Nat → Prop} {h0 h0_all : Nat} {f0_h0 : List Value} {h0_all_n : Nat} {l1 : Int32} {h0_all_c : Nat → Int32} {out : Int32} (hx : p.tables.exec = Jvm.exec) (hb : c.code = prog_18_method_3_code) (hr : meth.sig.returnType = (Option.some Jvm.ClassFile.FieldType.int)) (hml : c.maxLocals = 2) (hh : zH s) (hg : ∀ w ∈ lw_R, w.before args s = true) (hown : s.vm.findClass "ChanceArenaModel$Numbers" = some m.cls) (hlocks : meth.locks = false) (hK : va_K D vwCl (zT tA) s) (hA : ∀ q, s.heap.size ≤ q → A q)  : ∀ (H : Heap) (locs : List Loc) (ls : Array Slot), f_MN_at h0_all_n l1 h0_all_c = some out → f0_h0[0]? = some (.ref h0_all) → va_P D vwCl [(h0, .inr (14, f0_h0)), (h0_all, .inl (tA 0, h0_all_n, .inl h0_all_c))] H → va_D A [(h0, .inr (14, f0_h0)), (h0_all, .inl (tA 0, h0_all_n, .inl h0_all_c))] → va_S A s.heap H locs → lv_has ls 2 [(0, .ref h0), (1, .int l1)] → W p l e { frames := 0, cells := 0, slots := 0, locals := 0 } s m args below meth c H locs 0 0 (MQ below (va_Qi (fun (r9 : Int32) (u9 : Unit) => r9 = out) (zPost D A (fun (u9 : Unit) => [(h0, .inr (14, f0_h0)), (h0_all, .inl (tA 0, h0_all_n, .inl h0_all_c))])) A) args s 0 0 A) (F0 m 0 ls []) := by
  intro    H locs ls hF q_h0_all hP hD hS hl
  replace hF : ((chk (0 ≤ (l1 : Int32).toInt ∧ (l1 : Int32).toInt < h0_all_n) (some ((h0_all_c (l1 : Int32).toNatClampNeg)))) : Option (Int32)) = some out := hF
  refine lv_aload_n hx hb d_MN_at_0 rfl (lv_at hl 0 rfl) ?_
  refine va_get (D := D) (ci := 14) (v := .ref h0_all) (C := R_MN) (T := T_MN) (N := 2) hx hb hg i_MN hown hK hP 0 rfl rfl 0 (by decide) (hg _ k8_211) (fun _ h9 => h9) q_h0_all d_MN_at_1 ?_
  refine lv_iload_n hx hb d_MN_at_4 rfl (lv_at hl 1 rfl) ?_
  obtain ⟨h9, hF⟩ := chk_some hF
  refine va_iald hx hb hK hP 1 0 rfl rfl (vp_in_iff.mpr h9) d_MN_at_5 ?_
  replace hF := Option.some.inj hF
  subst hF
  exact zZret (post := (fun (r9 : Int32) (u9 : Unit) => r9 = (h0_all_c (l1 : Int32).toNatClampNeg))) (W1 := (fun (u9 : Unit) => [(h0, .inr (14, f0_h0)), (h0_all, .inl (tA 0, h0_all_n, .inl h0_all_c))])) (v := (h0_all_c (l1 : Int32).toNatClampNeg)) hx hb hr rfl hlocks hP hD hS () rfl rfl d_MN_at_6
set_option maxHeartbeats 4000000 in
set_option maxRecDepth 100000 in
theorem m_MN_at (l : Launch) (D : va_G) (tA : Nat → ClassId) (sz : Nat) (h0 h0_all : Nat) (f0_h0 : List Value) (h0_all_n : Nat) (l1 : Int32) (h0_all_c : Nat → Int32) (q_h0_all : f0_h0[0]? = some (.ref h0_all)) (out : Int32) (hF : f_MN_at h0_all_n l1 h0_all_c = some out) : zMi l ({ cls := "ChanceArenaModel$Numbers", name := "at", desc := "(I)I" } : Jvm.MethodName) (zW (Jvm.Cond.code ({ cls := "ChanceArenaModel$Numbers", name := "at", desc := "(I)I" } : Jvm.MethodName) prog_18_method_3_code (2 : Nat) (Option.some Jvm.ClassFile.FieldType.int))) { frames := 0, cells := 0, slots := 0, locals := 0 } [.ref h0, .int l1] D tA [(h0, .inr (14, f0_h0)), (h0_all, .inl (tA 0, h0_all_n, .inl h0_all_c))] sz (fun (r9 : Int32) (u9 : Unit) => r9 = out) (fun (u9 : Unit) => [(h0, .inr (14, f0_h0)), (h0_all, .inl (tA 0, h0_all_n, .inl h0_all_c))]) 0 0 := by
  refine zOpen (l := l) (y := ({ cls := "ChanceArenaModel$Numbers", name := "at", desc := "(I)I" } : Jvm.MethodName)) (ws := zW (Jvm.Cond.code ({ cls := "ChanceArenaModel$Numbers", name := "at", desc := "(I)I" } : Jvm.MethodName) prog_18_method_3_code (2 : Nat) (Option.some Jvm.ClassFile.FieldType.int))) (rm := { frames := 0, cells := 0, slots := 0, locals := 0 }) (av := [.ref h0, .int l1]) (D := D) (tA := tA) (W0 := [(h0, .inr (14, f0_h0)), (h0_all, .inl (tA 0, h0_all_n, .inl h0_all_c))]) (Wm := [(h0, .inr (14, f0_h0)), (h0_all, .inl (tA 0, h0_all_n, .inl h0_all_c))]) (sz := sz) (mc := 0) (ms := 0) (fun A => va_Qi (fun (r9 : Int32) (u9 : Unit) => r9 = out) (zPost D A (fun (u9 : Unit) => [(h0, .inr (14, f0_h0)), (h0_all, .inl (tA 0, h0_all_n, .inl h0_all_c))])) A) (lv := [(0, .ref h0), (1, .int l1)]) (by decide) rfl (Nat.le_of_ble_eq_true rfl) rfl ?_
  intro p e s m below meth c A ls hx hb hr hml hh hg hown hlocks hnm hK hA hP hD0 hAw hS hl
  have hD := zD hD0 hAw
  exact b_MN_at_0 hx hb hr hml hh hg hown hlocks hK hA    _ _ _ hF q_h0_all hP hD hS hl
def f_MN_last (h0_all_n : Nat) (h0_size : Int32) (h0_all_c : Nat → Int32) : Option (Int32) := chk (0 ≤ ((h0_size - 1) : Int32).toInt ∧ ((h0_size - 1) : Int32).toInt < h0_all_n) (some ((h0_all_c ((h0_size - 1) : Int32).toNatClampNeg)))
set_option maxHeartbeats 4000000 in
set_option maxRecDepth 100000 in
theorem b_MN_last_0 {p : Program} {l : Launch} {e : Env} {s : State} {m : MethodId} {args : Array Value} {below : List Frame} {meth : Method} {c : Code} {D : va_G} {tA : Nat → ClassId} {A : Nat → Prop} {h0 h0_all : Nat} {f0_h0 : List Value} {h0_all_n : Nat} {h0_size : Int32} {h0_all_c : Nat → Int32} {out : Int32} (hx : p.tables.exec = Jvm.exec) (hb : c.code = prog_18_method_4_code) (hr : meth.sig.returnType = (Option.some Jvm.ClassFile.FieldType.int)) (hml : c.maxLocals = 1) (hh : zH s) (hg : ∀ w ∈ lw_R, w.before args s = true) (hown : s.vm.findClass "ChanceArenaModel$Numbers" = some m.cls) (hlocks : meth.locks = false) (hK : va_K D vwCl (zT tA) s) (hA : ∀ q, s.heap.size ≤ q → A q)  : ∀ (H : Heap) (locs : List Loc) (ls : Array Slot), f_MN_last h0_all_n h0_size h0_all_c = some out → f0_h0[0]? = some (.ref h0_all) → f0_h0[1]? = some (.int h0_size) → va_P D vwCl [(h0, .inr (14, f0_h0)), (h0_all, .inl (tA 0, h0_all_n, .inl h0_all_c))] H → va_D A [(h0, .inr (14, f0_h0)), (h0_all, .inl (tA 0, h0_all_n, .inl h0_all_c))] → va_S A s.heap H locs → lv_has ls 1 [(0, .ref h0)] → W p l e { frames := 0, cells := 0, slots := 0, locals := 0 } s m args below meth c H locs 0 0 (MQ below (va_Qi (fun (r9 : Int32) (u9 : Unit) => r9 = out) (zPost D A (fun (u9 : Unit) => [(h0, .inr (14, f0_h0)), (h0_all, .inl (tA 0, h0_all_n, .inl h0_all_c))])) A) args s 0 0 A) (F0 m 0 ls []) := by
  intro    H locs ls hF q_h0_all q_h0_size hP hD hS hl
  replace hF : ((chk (0 ≤ ((h0_size - 1) : Int32).toInt ∧ ((h0_size - 1) : Int32).toInt < h0_all_n) (some ((h0_all_c ((h0_size - 1) : Int32).toNatClampNeg)))) : Option (Int32)) = some out := hF
  refine lv_aload_n hx hb d_MN_last_0 rfl (lv_at hl 0 rfl) ?_
  refine va_get (D := D) (ci := 14) (v := .ref h0_all) (C := R_MN) (T := T_MN) (N := 2) hx hb hg i_MN hown hK hP 0 rfl rfl 0 (by decide) (hg _ k8_211) (fun _ h9 => h9) q_h0_all d_MN_last_1 ?_
  refine lv_aload_n hx hb d_MN_last_4 rfl (lv_at hl 0 rfl) ?_
  refine va_get (D := D) (ci := 14) (v := .int h0_size) (C := R_MN) (T := T_MN) (N := 2) hx hb hg i_MN hown hK hP 0 rfl rfl 1 (by decide) (hg _ k8_213) (fun _ h9 => h9) q_h0_size d_MN_last_5 ?_
  refine lv_iconst (v := 1) hx hb d_MN_last_8 (by decide) ?_
  refine lv_isub hx hb d_MN_last_9 ?_
  obtain ⟨h9, hF⟩ := chk_some hF
  refine va_iald hx hb hK hP 1 0 rfl rfl (vp_in_iff.mpr h9) d_MN_last_10 ?_
  replace hF := Option.some.inj hF
  subst hF
  exact zZret (post := (fun (r9 : Int32) (u9 : Unit) => r9 = (h0_all_c ((h0_size - 1) : Int32).toNatClampNeg))) (W1 := (fun (u9 : Unit) => [(h0, .inr (14, f0_h0)), (h0_all, .inl (tA 0, h0_all_n, .inl h0_all_c))])) (v := (h0_all_c ((h0_size - 1) : Int32).toNatClampNeg)) hx hb hr rfl hlocks hP hD hS () rfl rfl d_MN_last_11
set_option maxHeartbeats 4000000 in
set_option maxRecDepth 100000 in
theorem m_MN_last (l : Launch) (D : va_G) (tA : Nat → ClassId) (sz : Nat) (h0 h0_all : Nat) (f0_h0 : List Value) (h0_all_n : Nat) (h0_size : Int32) (h0_all_c : Nat → Int32) (q_h0_all : f0_h0[0]? = some (.ref h0_all)) (q_h0_size : f0_h0[1]? = some (.int h0_size)) (out : Int32) (hF : f_MN_last h0_all_n h0_size h0_all_c = some out) : zMi l ({ cls := "ChanceArenaModel$Numbers", name := "last", desc := "()I" } : Jvm.MethodName) (zW (Jvm.Cond.code ({ cls := "ChanceArenaModel$Numbers", name := "last", desc := "()I" } : Jvm.MethodName) prog_18_method_4_code (1 : Nat) (Option.some Jvm.ClassFile.FieldType.int))) { frames := 0, cells := 0, slots := 0, locals := 0 } [.ref h0] D tA [(h0, .inr (14, f0_h0)), (h0_all, .inl (tA 0, h0_all_n, .inl h0_all_c))] sz (fun (r9 : Int32) (u9 : Unit) => r9 = out) (fun (u9 : Unit) => [(h0, .inr (14, f0_h0)), (h0_all, .inl (tA 0, h0_all_n, .inl h0_all_c))]) 0 0 := by
  refine zOpen (l := l) (y := ({ cls := "ChanceArenaModel$Numbers", name := "last", desc := "()I" } : Jvm.MethodName)) (ws := zW (Jvm.Cond.code ({ cls := "ChanceArenaModel$Numbers", name := "last", desc := "()I" } : Jvm.MethodName) prog_18_method_4_code (1 : Nat) (Option.some Jvm.ClassFile.FieldType.int))) (rm := { frames := 0, cells := 0, slots := 0, locals := 0 }) (av := [.ref h0]) (D := D) (tA := tA) (W0 := [(h0, .inr (14, f0_h0)), (h0_all, .inl (tA 0, h0_all_n, .inl h0_all_c))]) (Wm := [(h0, .inr (14, f0_h0)), (h0_all, .inl (tA 0, h0_all_n, .inl h0_all_c))]) (sz := sz) (mc := 0) (ms := 0) (fun A => va_Qi (fun (r9 : Int32) (u9 : Unit) => r9 = out) (zPost D A (fun (u9 : Unit) => [(h0, .inr (14, f0_h0)), (h0_all, .inl (tA 0, h0_all_n, .inl h0_all_c))])) A) (lv := [(0, .ref h0)]) (by decide) rfl (Nat.le_of_ble_eq_true rfl) rfl ?_
  intro p e s m below meth c A ls hx hb hr hml hh hg hown hlocks hnm hK hA hP hD0 hAw hS hl
  have hD := zD hD0 hAw
  exact b_MN_last_0 hx hb hr hml hh hg hown hlocks hK hA    _ _ _ hF q_h0_all q_h0_size hP hD hS hl
def f_MN_take (h0_all_n : Nat) (h0_all_c : Nat → Int32) (h0_size : Int32) : Option (Int32 × Int32) := chk (0 ≤ ((h0_size - 1) : Int32).toInt ∧ ((h0_size - 1) : Int32).toInt < h0_all_n) (some ((h0_all_c ((h0_size - 1) : Int32).toNatClampNeg), (h0_size - 1)))
set_option maxHeartbeats 4000000 in
set_option maxRecDepth 100000 in
theorem b_MN_take_0 {p : Program} {l : Launch} {e : Env} {s : State} {m : MethodId} {args : Array Value} {below : List Frame} {meth : Method} {c : Code} {D : va_G} {tA : Nat → ClassId} {A : Nat → Prop} {h0 h0_all : Nat} {f0_h0 : List Value} {h0_all_n : Nat} {h0_all_c : Nat → Int32} {h0_size : Int32} {out : Int32 × Int32} (hx : p.tables.exec = Jvm.exec) (hb : c.code = prog_18_method_5_code) (hr : meth.sig.returnType = (Option.some Jvm.ClassFile.FieldType.int)) (hml : c.maxLocals = 1) (hh : zH s) (hg : ∀ w ∈ lw_R, w.before args s = true) (hown : s.vm.findClass "ChanceArenaModel$Numbers" = some m.cls) (hlocks : meth.locks = false) (hK : va_K D vwCl (zT tA) s) (hA : ∀ q, s.heap.size ≤ q → A q)  : ∀ (f_h0 : List Value) (H : Heap) (locs : List Loc) (ls : Array Slot), f_MN_take h0_all_n h0_all_c h0_size = some out → f_h0[0]? = some (.ref h0_all) → f_h0[1]? = some (.int h0_size) → Fr [1] f0_h0 f_h0 → va_P D vwCl [(h0, .inr (14, f_h0)), (h0_all, .inl (tA 0, h0_all_n, .inl h0_all_c))] H → va_D A [(h0, .inr (14, f_h0)), (h0_all, .inl (tA 0, h0_all_n, .inl h0_all_c))] → va_S A s.heap H locs → lv_has ls 1 [(0, .ref h0)] → W p l e { frames := 0, cells := 0, slots := 0, locals := 0 } s m args below meth c H locs 0 0 (MQ below (va_Qi (fun (r9 : Int32) (u9 : List Value) => r9 = out.1 ∧ Fr [1] f0_h0 u9 ∧ u9[1]? = some (.int out.2)) (zPost D A (fun (u9 : List Value) => [(h0, .inr (14, u9)), (h0_all, .inl (tA 0, h0_all_n, .inl h0_all_c))])) A) args s 0 0 A) (F0 m 0 ls []) := by
  intro   f_h0 H locs ls hF q_h0_all q_h0_size r_h0 hP hD hS hl
  replace hF : ((chk (0 ≤ ((h0_size - 1) : Int32).toInt ∧ ((h0_size - 1) : Int32).toInt < h0_all_n) (some ((h0_all_c ((h0_size - 1) : Int32).toNatClampNeg), (h0_size - 1)))) : Option (Int32 × Int32)) = some out := hF
  refine lv_aload_n hx hb d_MN_take_0 rfl (lv_at hl 0 rfl) ?_
  refine lv_aload_n hx hb d_MN_take_1 rfl (lv_at hl 0 rfl) ?_
  refine va_get (D := D) (ci := 14) (v := .int h0_size) (C := R_MN) (T := T_MN) (N := 2) hx hb hg i_MN hown hK hP 0 rfl rfl 1 (by decide) (hg _ k8_213) (fun _ h9 => h9) q_h0_size d_MN_take_2 ?_
  refine lv_iconst (v := 1) hx hb d_MN_take_5 (by decide) ?_
  refine lv_isub hx hb d_MN_take_6 ?_
  refine va_put (D := D) (ci := 14) (v := .int (h0_size - 1)) (ty := .int) (C := R_MN) (T := T_MN) (N := 2) hx hb hg i_MN t_MN o_MN n_MN hown hK hP hD hS 0 rfl rfl 1 (by decide) (hg _ k8_213) (fun _ h9 => h9) rfl (by decide +kernel) rfl rfl (zLen q_h0_size) d_MN_take_7 (fun H1 locs1 hP1 hD1 hS1 => ?_)
  clear hP hD hS
  replace hP1 : va_P D vwCl [(h0, .inr (14, f_h0.set 1 (.int (h0_size - 1)))), (h0_all, .inl (tA 0, h0_all_n, .inl h0_all_c))] _ := hP1
  replace hD1 : va_D A [(h0, .inr (14, f_h0.set 1 (.int (h0_size - 1)))), (h0_all, .inl (tA 0, h0_all_n, .inl h0_all_c))] := hD1
  refine lv_aload_n hx hb d_MN_take_10 rfl (lv_at hl 0 rfl) ?_
  refine va_get (D := D) (ci := 14) (v := .ref h0_all) (C := R_MN) (T := T_MN) (N := 2) hx hb hg i_MN hown hK hP1 0 rfl rfl 0 (by decide) (hg _ k8_211) (fun _ h9 => h9) (zSetN (by decide) q_h0_all) d_MN_take_11 ?_
  refine lv_aload_n hx hb d_MN_take_14 rfl (lv_at hl 0 rfl) ?_
  refine va_get (D := D) (ci := 14) (v := .int (h0_size - 1)) (C := R_MN) (T := T_MN) (N := 2) hx hb hg i_MN hown hK hP1 0 rfl rfl 1 (by decide) (hg _ k8_213) (fun _ h9 => h9) (zSetS q_h0_size) d_MN_take_15 ?_
  obtain ⟨h9, hF⟩ := chk_some hF
  refine va_iald hx hb hK hP1 1 0 rfl rfl (vp_in_iff.mpr h9) d_MN_take_18 ?_
  replace hF := Option.some.inj hF
  subst hF
  exact zZret (post := (fun (r9 : Int32) (u9 : List Value) => r9 = ((h0_all_c ((h0_size - 1) : Int32).toNatClampNeg), (h0_size - 1)).1 ∧ Fr [1] f0_h0 u9 ∧ u9[1]? = some (.int (((h0_all_c ((h0_size - 1) : Int32).toNatClampNeg), (h0_size - 1)).2)))) (W1 := (fun (u9 : List Value) => [(h0, .inr (14, u9)), (h0_all, .inl (tA 0, h0_all_n, .inl h0_all_c))])) (v := (h0_all_c ((h0_size - 1) : Int32).toNatClampNeg)) hx hb hr rfl hlocks hP1 hD1 hS1 (f_h0.set 1 (.int (h0_size - 1))) ⟨rfl, (Fr.set r_h0 (by decide)), (zSetS q_h0_size)⟩ rfl d_MN_take_19
set_option maxHeartbeats 4000000 in
set_option maxRecDepth 100000 in
theorem m_MN_take (l : Launch) (D : va_G) (tA : Nat → ClassId) (sz : Nat) (h0 h0_all : Nat) (f0_h0 : List Value) (h0_all_n : Nat) (h0_all_c : Nat → Int32) (h0_size : Int32) (q_h0_all : f0_h0[0]? = some (.ref h0_all)) (q_h0_size : f0_h0[1]? = some (.int h0_size)) (out : Int32 × Int32) (hF : f_MN_take h0_all_n h0_all_c h0_size = some out) : zMi l ({ cls := "ChanceArenaModel$Numbers", name := "take", desc := "()I" } : Jvm.MethodName) (zW (Jvm.Cond.code ({ cls := "ChanceArenaModel$Numbers", name := "take", desc := "()I" } : Jvm.MethodName) prog_18_method_5_code (1 : Nat) (Option.some Jvm.ClassFile.FieldType.int))) { frames := 0, cells := 0, slots := 0, locals := 0 } [.ref h0] D tA [(h0, .inr (14, f0_h0)), (h0_all, .inl (tA 0, h0_all_n, .inl h0_all_c))] sz (fun (r9 : Int32) (u9 : List Value) => r9 = out.1 ∧ Fr [1] f0_h0 u9 ∧ u9[1]? = some (.int out.2)) (fun (u9 : List Value) => [(h0, .inr (14, u9)), (h0_all, .inl (tA 0, h0_all_n, .inl h0_all_c))]) 0 0 := by
  refine zOpen (l := l) (y := ({ cls := "ChanceArenaModel$Numbers", name := "take", desc := "()I" } : Jvm.MethodName)) (ws := zW (Jvm.Cond.code ({ cls := "ChanceArenaModel$Numbers", name := "take", desc := "()I" } : Jvm.MethodName) prog_18_method_5_code (1 : Nat) (Option.some Jvm.ClassFile.FieldType.int))) (rm := { frames := 0, cells := 0, slots := 0, locals := 0 }) (av := [.ref h0]) (D := D) (tA := tA) (W0 := [(h0, .inr (14, f0_h0)), (h0_all, .inl (tA 0, h0_all_n, .inl h0_all_c))]) (Wm := [(h0, .inr (14, f0_h0)), (h0_all, .inl (tA 0, h0_all_n, .inl h0_all_c))]) (sz := sz) (mc := 0) (ms := 0) (fun A => va_Qi (fun (r9 : Int32) (u9 : List Value) => r9 = out.1 ∧ Fr [1] f0_h0 u9 ∧ u9[1]? = some (.int out.2)) (zPost D A (fun (u9 : List Value) => [(h0, .inr (14, u9)), (h0_all, .inl (tA 0, h0_all_n, .inl h0_all_c))])) A) (lv := [(0, .ref h0)]) (by decide) rfl (Nat.le_of_ble_eq_true rfl) rfl ?_
  intro p e s m below meth c A ls hx hb hr hml hh hg hown hlocks hnm hK hA hP hD0 hAw hS hl
  have hD := zD hD0 hAw
  exact b_MN_take_0 hx hb hr hml hh hg hown hlocks hK hA   f0_h0 _ _ _ hF q_h0_all q_h0_size Fr.rfl hP hD hS hl
def f_MN_add (l1 : Int32) : Nat → Nat → Nat → Nat → Nat → Int32 → (Nat → Int32) → Int32 → Nat → (Nat → Int32) → Option (Nat × Nat × Nat × Int32 × (Nat → Int32))
  | 0, _, _, _, _, _, _, _, _, _ => none
  | n + 1, 0, mc, ms, h0_all_n, h0_size, h0_all_c, l3, q18_n, q18_c => if ¬ (h0_size : Int32) = (Int32.ofNat h0_all_n) then chk (0 ≤ (h0_size : Int32).toInt ∧ (h0_size : Int32).toInt < h0_all_n) (some (mc, ms, h0_all_n, (h0_size + 1), upd h0_all_c (h0_size : Int32).toNatClampNeg l1)) else chk (0 ≤ ((2 * h0_size) : Int32).toInt ∧ ((2 * h0_size) : Int32).toInt ≤ 16777216) (f_MN_add l1 n 1 (mc + 1) (ms + ((2 * h0_size) : Int32).toNatClampNeg) h0_all_n h0_size h0_all_c 0 (((2 * h0_size) : Int32).toNatClampNeg) (fun _ => 0))
  | n + 1, 1, mc, ms, h0_all_n, h0_size, h0_all_c, l3, q18_n, q18_c => chk True (f_MN_add l1 n 2 mc ms h0_all_n h0_size h0_all_c 0 q18_n q18_c)
  | n + 1, 2, mc, ms, h0_all_n, h0_size, h0_all_c, l3, q18_n, q18_c => if (h0_size : Int32) ≤ l3 then chk (0 ≤ (h0_size : Int32).toInt ∧ (h0_size : Int32).toInt < q18_n) (some (mc, ms, q18_n, (h0_size + 1), upd q18_c (h0_size : Int32).toNatClampNeg l1)) else chk (0 ≤ (l3 : Int32).toInt ∧ (l3 : Int32).toInt < h0_all_n) (chk (0 ≤ (l3 : Int32).toInt ∧ (l3 : Int32).toInt < q18_n) (f_MN_add l1 n 2 mc ms h0_all_n h0_size h0_all_c (l3 + Int32.ofInt 1) q18_n (upd q18_c (l3 : Int32).toNatClampNeg (h0_all_c (l3 : Int32).toNatClampNeg))))
  | _ + 1, _ + 3, _, _, _, _, _, _, _, _ => none
theorem e_MN_add_0 (l1 : Int32) (n : Nat) (mc : Nat) (ms : Nat) (h0_all_n : Nat) (h0_size : Int32) (h0_all_c : Nat → Int32) (l3 : Int32) (q18_n : Nat) (q18_c : Nat → Int32) : f_MN_add l1 (n + 1) 0 mc ms h0_all_n h0_size h0_all_c l3 q18_n q18_c = if ¬ (h0_size : Int32) = (Int32.ofNat h0_all_n) then chk (0 ≤ (h0_size : Int32).toInt ∧ (h0_size : Int32).toInt < h0_all_n) (some (mc, ms, h0_all_n, (h0_size + 1), upd h0_all_c (h0_size : Int32).toNatClampNeg l1)) else chk (0 ≤ ((2 * h0_size) : Int32).toInt ∧ ((2 * h0_size) : Int32).toInt ≤ 16777216) (f_MN_add l1 n 1 (mc + 1) (ms + ((2 * h0_size) : Int32).toNatClampNeg) h0_all_n h0_size h0_all_c 0 (((2 * h0_size) : Int32).toNatClampNeg) (fun _ => 0)) := by rw [f_MN_add]
theorem e_MN_add_1 (l1 : Int32) (n : Nat) (mc : Nat) (ms : Nat) (h0_all_n : Nat) (h0_size : Int32) (h0_all_c : Nat → Int32) (l3 : Int32) (q18_n : Nat) (q18_c : Nat → Int32) : f_MN_add l1 (n + 1) 1 mc ms h0_all_n h0_size h0_all_c l3 q18_n q18_c = chk True (f_MN_add l1 n 2 mc ms h0_all_n h0_size h0_all_c 0 q18_n q18_c) := by rw [f_MN_add]
theorem e_MN_add_2 (l1 : Int32) (n : Nat) (mc : Nat) (ms : Nat) (h0_all_n : Nat) (h0_size : Int32) (h0_all_c : Nat → Int32) (l3 : Int32) (q18_n : Nat) (q18_c : Nat → Int32) : f_MN_add l1 (n + 1) 2 mc ms h0_all_n h0_size h0_all_c l3 q18_n q18_c = if (h0_size : Int32) ≤ l3 then chk (0 ≤ (h0_size : Int32).toInt ∧ (h0_size : Int32).toInt < q18_n) (some (mc, ms, q18_n, (h0_size + 1), upd q18_c (h0_size : Int32).toNatClampNeg l1)) else chk (0 ≤ (l3 : Int32).toInt ∧ (l3 : Int32).toInt < h0_all_n) (chk (0 ≤ (l3 : Int32).toInt ∧ (l3 : Int32).toInt < q18_n) (f_MN_add l1 n 2 mc ms h0_all_n h0_size h0_all_c (l3 + Int32.ofInt 1) q18_n (upd q18_c (l3 : Int32).toNatClampNeg (h0_all_c (l3 : Int32).toNatClampNeg)))) := by rw [f_MN_add]
theorem z_MN_add (l1 : Int32) (h : Nat) (mc : Nat) (ms : Nat) (h0_all_n : Nat) (h0_size : Int32) (h0_all_c : Nat → Int32) (l3 : Int32) (q18_n : Nat) (q18_c : Nat → Int32) : f_MN_add l1 0 h mc ms h0_all_n h0_size h0_all_c l3 q18_n q18_c = none := by rw [f_MN_add]
set_option maxHeartbeats 4000000 in
theorem n_MN_add {l1 : Int32} {out : Nat × Nat × Nat × Int32 × (Nat → Int32)} : ∀ n : Nat, (∀ (mc : Nat) (ms : Nat) (h0_all_n : Nat) (h0_size : Int32) (h0_all_c : Nat → Int32) (l3 : Int32) (q18_n : Nat) (q18_c : Nat → Int32), f_MN_add l1 n 0 mc ms h0_all_n h0_size h0_all_c l3 q18_n q18_c = some out → mc ≤ out.1 ∧ ms ≤ out.2.1) ∧ (∀ (mc : Nat) (ms : Nat) (h0_all_n : Nat) (h0_size : Int32) (h0_all_c : Nat → Int32) (l3 : Int32) (q18_n : Nat) (q18_c : Nat → Int32), f_MN_add l1 n 1 mc ms h0_all_n h0_size h0_all_c l3 q18_n q18_c = some out → mc ≤ out.1 ∧ ms ≤ out.2.1) ∧ (∀ (mc : Nat) (ms : Nat) (h0_all_n : Nat) (h0_size : Int32) (h0_all_c : Nat → Int32) (l3 : Int32) (q18_n : Nat) (q18_c : Nat → Int32), f_MN_add l1 n 2 mc ms h0_all_n h0_size h0_all_c l3 q18_n q18_c = some out → mc ≤ out.1 ∧ ms ≤ out.2.1) := by
  intro n
  induction n with
  | zero => exact ⟨(fun _ _ _ _ _ _ _ _ hF => by rw [z_MN_add] at hF; cases hF), (fun _ _ _ _ _ _ _ _ hF => by rw [z_MN_add] at hF; cases hF), (fun _ _ _ _ _ _ _ _ hF => by rw [z_MN_add] at hF; cases hF)⟩
  | succ n ih =>
    obtain ⟨i0, i1, i2⟩ := ih
    refine ⟨?_, ?_, ?_⟩
    · intro mc ms h0_all_n h0_size h0_all_c l3 q18_n q18_c hF
      rw [e_MN_add_0] at hF
      by_cases c9 : ¬ (h0_size : Int32) = (Int32.ofNat h0_all_n)
      · replace hF := ifp c9 hF
        obtain ⟨h9, hF⟩ := chk_some hF
        replace hF := Option.some.inj hF
        subst hF
        exact ⟨Nat.le_refl _, Nat.le_refl _⟩
      · replace hF := ifn c9 hF
        obtain ⟨h9, hF⟩ := chk_some hF
        have hz := i1 _ _ _ _ _ _ _ _ hF
        exact ⟨Nat.le_trans (Nat.le_add_right _ _) hz.1, Nat.le_trans (Nat.le_add_right _ _) hz.2⟩
    · intro mc ms h0_all_n h0_size h0_all_c l3 q18_n q18_c hF
      rw [e_MN_add_1] at hF
      obtain ⟨_, hF⟩ := chk_some hF
      have hz := i2 _ _ _ _ _ _ _ _ hF
      exact hz
    · intro mc ms h0_all_n h0_size h0_all_c l3 q18_n q18_c hF
      rw [e_MN_add_2] at hF
      by_cases c9 : (h0_size : Int32) ≤ l3
      · replace hF := ifp c9 hF
        obtain ⟨h9, hF⟩ := chk_some hF
        replace hF := Option.some.inj hF
        subst hF
        exact ⟨Nat.le_refl _, Nat.le_refl _⟩
      · replace hF := ifn c9 hF
        obtain ⟨h9, hF⟩ := chk_some hF
        obtain ⟨h9, hF⟩ := chk_some hF
        have hz := i2 _ _ _ _ _ _ _ _ hF
        exact hz
set_option maxHeartbeats 4000000 in
set_option maxRecDepth 100000 in
theorem b_MN_add_0 {p : Program} {l : Launch} {e : Env} {s : State} {m : MethodId} {args : Array Value} {below : List Frame} {meth : Method} {c : Code} {D : va_G} {tA : Nat → ClassId} {A : Nat → Prop} {h0 : Nat} {f0_h0 : List Value} {l1 : Int32} {out : Nat × Nat × Nat × Int32 × (Nat → Int32)} (hx : p.tables.exec = Jvm.exec) (hb : c.code = prog_18_method_2_code) (hr : meth.sig.returnType = (Option.none : Option Jvm.ClassFile.FieldType)) (hml : c.maxLocals = 4) (hh : zH s) (hg : ∀ w ∈ lw_R, w.before args s = true) (hown : s.vm.findClass "ChanceArenaModel$Numbers" = some m.cls) (hlocks : meth.locks = false) (hK : va_K D vwCl (zT tA) s) (hA : ∀ q, s.heap.size ≤ q → A q) {n : Nat} (ih1 : ∀ (mc : Nat) (ms : Nat) (h0_all_n : Nat) (h0_size : Int32) (h0_all_c : Nat → Int32) (l3 : Int32) (q18_n : Nat) (q18_c : Nat → Int32) (h0_all : Nat) (q18 : Nat) (f_h0 : List Value) (H : Heap) (locs : List Loc) (ls : Array Slot), f_MN_add l1 n 1 mc ms h0_all_n h0_size h0_all_c l3 q18_n q18_c = some out → f_h0[0]? = some (.ref h0_all) → f_h0[1]? = some (.int h0_size) → Fr [0, 1] f0_h0 f_h0 → va_P D vwCl [(h0, .inr (14, f_h0)), (h0_all, .inl (tA 0, h0_all_n, .inl h0_all_c)), (q18, .inl (tA 0, q18_n, .inl q18_c))] H → va_D A [(h0, .inr (14, f_h0)), (h0_all, .inl (tA 0, h0_all_n, .inl h0_all_c)), (q18, .inl (tA 0, q18_n, .inl q18_c))] → va_S A s.heap H locs → lv_has ls 4 [(0, .ref h0), (1, .int l1)] → W p l e { frames := 0, cells := out.1, slots := out.2.1, locals := 0 } s m args below meth c H locs mc ms (MQ below (va_Qv (fun (u9 : List Value × Nat) => Fr [0, 1] f0_h0 u9.1 ∧ u9.1[1]? = some (.int out.2.2.2.1) ∧ u9.1[0]? = some (.ref u9.2)) (zPost D A (fun (u9 : List Value × Nat) => [(h0, .inr (14, u9.1)), (u9.2, .inl (tA 0, out.2.2.1, .inl out.2.2.2.2))])) A) args s out.1 out.2.1 A) (F0 m 20 ls [.ref q18])) : ∀ (mc : Nat) (ms : Nat) (h0_all_n : Nat) (h0_size : Int32) (h0_all_c : Nat → Int32) (l3 : Int32) (q18_n : Nat) (q18_c : Nat → Int32) (h0_all : Nat) (f_h0 : List Value) (H : Heap) (locs : List Loc) (ls : Array Slot), f_MN_add l1 (n + 1) 0 mc ms h0_all_n h0_size h0_all_c l3 q18_n q18_c = some out → f_h0[0]? = some (.ref h0_all) → f_h0[1]? = some (.int h0_size) → Fr [0, 1] f0_h0 f_h0 → va_P D vwCl [(h0, .inr (14, f_h0)), (h0_all, .inl (tA 0, h0_all_n, .inl h0_all_c))] H → va_D A [(h0, .inr (14, f_h0)), (h0_all, .inl (tA 0, h0_all_n, .inl h0_all_c))] → va_S A s.heap H locs → lv_has ls 4 [(0, .ref h0), (1, .int l1)] → W p l e { frames := 0, cells := out.1, slots := out.2.1, locals := 0 } s m args below meth c H locs mc ms (MQ below (va_Qv (fun (u9 : List Value × Nat) => Fr [0, 1] f0_h0 u9.1 ∧ u9.1[1]? = some (.int out.2.2.2.1) ∧ u9.1[0]? = some (.ref u9.2)) (zPost D A (fun (u9 : List Value × Nat) => [(h0, .inr (14, u9.1)), (u9.2, .inl (tA 0, out.2.2.1, .inl out.2.2.2.2))])) A) args s out.1 out.2.1 A) (F0 m 0 ls []) := by
  intro mc ms h0_all_n h0_size h0_all_c l3 q18_n q18_c h0_all f_h0 H locs ls hF q_h0_all q_h0_size r_h0 hP hD hS hl
  have hm := (n_MN_add (n + 1)).1 _ _ _ _ _ _ _ _ hF
  rw [e_MN_add_0] at hF
  refine lv_aload_n hx hb d_MN_add_0 rfl (lv_at hl 0 rfl) ?_
  refine va_get (D := D) (ci := 14) (v := .int h0_size) (C := R_MN) (T := T_MN) (N := 2) hx hb hg i_MN hown hK hP 0 rfl rfl 1 (by decide) (hg _ k8_213) (fun _ h9 => h9) q_h0_size d_MN_add_1 ?_
  refine lv_aload_n hx hb d_MN_add_4 rfl (lv_at hl 0 rfl) ?_
  refine va_get (D := D) (ci := 14) (v := .ref h0_all) (C := R_MN) (T := T_MN) (N := 2) hx hb hg i_MN hown hK hP 0 rfl rfl 0 (by decide) (hg _ k8_211) (fun _ h9 => h9) q_h0_all d_MN_add_5 ?_
  refine va_alen (v := (Int32.ofNat h0_all_n)) hx hb hK hP 1 0 rfl rfl rfl d_MN_add_8 ?_
  refine lv_icmp_ne (tgt := 51) hx hb d_MN_add_9 (by decide) (fun c9 => ?_) (fun c9 => ?_)
  · replace hF := ifp c9 hF
    refine lv_aload_n hx hb d_MN_add_51 rfl (lv_at hl 0 rfl) ?_
    refine va_get (D := D) (ci := 14) (v := .ref h0_all) (C := R_MN) (T := T_MN) (N := 2) hx hb hg i_MN hown hK hP 0 rfl rfl 0 (by decide) (hg _ k8_211) (fun _ h9 => h9) q_h0_all d_MN_add_52 ?_
    refine lv_aload_n hx hb d_MN_add_55 rfl (lv_at hl 0 rfl) ?_
    refine va_get (D := D) (ci := 14) (v := .int h0_size) (C := R_MN) (T := T_MN) (N := 2) hx hb hg i_MN hown hK hP 0 rfl rfl 1 (by decide) (hg _ k8_213) (fun _ h9 => h9) q_h0_size d_MN_add_56 ?_
    refine lv_iload_n hx hb d_MN_add_59 rfl (lv_at hl 1 rfl) ?_
    obtain ⟨h9, hF⟩ := chk_some hF
    refine va_iast hx hb hK hP hD hS 1 0 rfl rfl (vp_in_iff.mpr h9) d_MN_add_60 (fun H1 locs1 hP1 hD1 hS1 => ?_)
    clear hP hD hS
    replace hP1 : va_P D vwCl [(h0, .inr (14, f_h0)), (h0_all, .inl (tA 0, h0_all_n, .inl (upd h0_all_c (h0_size : Int32).toNatClampNeg l1)))] _ := hP1
    replace hD1 : va_D A [(h0, .inr (14, f_h0)), (h0_all, .inl (tA 0, h0_all_n, .inl (upd h0_all_c (h0_size : Int32).toNatClampNeg l1)))] := hD1
    refine lv_aload_n hx hb d_MN_add_61 rfl (lv_at hl 0 rfl) ?_
    refine lv_aload_n hx hb d_MN_add_62 rfl (lv_at hl 0 rfl) ?_
    refine va_get (D := D) (ci := 14) (v := .int h0_size) (C := R_MN) (T := T_MN) (N := 2) hx hb hg i_MN hown hK hP1 0 rfl rfl 1 (by decide) (hg _ k8_213) (fun _ h9 => h9) q_h0_size d_MN_add_63 ?_
    refine lv_iconst (v := 1) hx hb d_MN_add_66 (by decide) ?_
    refine lv_iadd hx hb d_MN_add_67 ?_
    refine va_put (D := D) (ci := 14) (v := .int (h0_size + 1)) (ty := .int) (C := R_MN) (T := T_MN) (N := 2) hx hb hg i_MN t_MN o_MN n_MN hown hK hP1 hD1 hS1 0 rfl rfl 1 (by decide) (hg _ k8_213) (fun _ h9 => h9) rfl (by decide +kernel) rfl rfl (zLen q_h0_size) d_MN_add_68 (fun H2 locs2 hP2 hD2 hS2 => ?_)
    clear hP1 hD1 hS1
    replace hP2 : va_P D vwCl [(h0, .inr (14, f_h0.set 1 (.int (h0_size + 1)))), (h0_all, .inl (tA 0, h0_all_n, .inl (upd h0_all_c (h0_size : Int32).toNatClampNeg l1)))] _ := hP2
    replace hD2 : va_D A [(h0, .inr (14, f_h0.set 1 (.int (h0_size + 1)))), (h0_all, .inl (tA 0, h0_all_n, .inl (upd h0_all_c (h0_size : Int32).toNatClampNeg l1)))] := hD2
    replace hF := Option.some.inj hF
    subst hF
    exact zVret (post := (fun (u9 : List Value × Nat) => Fr [0, 1] f0_h0 u9.1 ∧ u9.1[1]? = some (.int ((mc, ms, h0_all_n, (h0_size + 1), upd h0_all_c (h0_size : Int32).toNatClampNeg l1).2.2.2.1)) ∧ u9.1[0]? = some (.ref u9.2))) (W1 := (fun (u9 : List Value × Nat) => [(h0, .inr (14, u9.1)), (u9.2, .inl (tA 0, (mc, ms, h0_all_n, (h0_size + 1), upd h0_all_c (h0_size : Int32).toNatClampNeg l1).2.2.1, .inl ((mc, ms, h0_all_n, (h0_size + 1), upd h0_all_c (h0_size : Int32).toNatClampNeg l1).2.2.2.2)))])) hx hb hr hlocks hP2 hD2 hS2 (f_h0.set 1 (.int (h0_size + 1)), h0_all) ⟨(Fr.set r_h0 (by decide)), (zSetS q_h0_size), (zSetN (by decide) q_h0_all)⟩ rfl d_MN_add_71
  · replace hF := ifn (fun h9 => h9 c9) hF
    refine lv_iconst (v := 2) hx hb d_MN_add_12 (by decide) ?_
    refine lv_aload_n hx hb d_MN_add_13 rfl (lv_at hl 0 rfl) ?_
    refine va_get (D := D) (ci := 14) (v := .int h0_size) (C := R_MN) (T := T_MN) (N := 2) hx hb hg i_MN hown hK hP 0 rfl rfl 1 (by decide) (hg _ k8_213) (fun _ h9 => h9) q_h0_size d_MN_add_14 ?_
    refine lv_imul hx hb d_MN_add_17 ?_
    obtain ⟨h9, hF⟩ := chk_some hF
    have hz := (n_MN_add n).2.1 _ _ _ _ _ _ _ _ hF
    refine zNewa (atype := .int) (ty := .int) (a0 := (((2 * h0_size) : Int32).toNatClampNeg, .inl (fun _ => 0))) (N' := ((2 * h0_size) : Int32).toNatClampNeg) hx hb rfl (hg _ k1_82) hK hP hD hS hA 0 rfl (fun _ h => by cases h) (fun _ => rfl) (zNn h9) rfl (zNby h9 (by decide)) hz.1 hz.2 d_MN_add_18 (fun q18 H1 hP1 hD1 hS1 => ?_)
    clear hP hD hS
    replace hP1 : va_P D vwCl [(h0, .inr (14, f_h0)), (h0_all, .inl (tA 0, h0_all_n, .inl h0_all_c)), (q18, .inl (tA 0, ((2 * h0_size) : Int32).toNatClampNeg, .inl (fun _ => 0)))] _ := hP1
    replace hD1 : va_D A [(h0, .inr (14, f_h0)), (h0_all, .inl (tA 0, h0_all_n, .inl h0_all_c)), (q18, .inl (tA 0, ((2 * h0_size) : Int32).toNatClampNeg, .inl (fun _ => 0)))] := hD1
    exact ih1 (mc + 1) (ms + ((2 * h0_size) : Int32).toNatClampNeg) h0_all_n h0_size h0_all_c 0 (((2 * h0_size) : Int32).toNatClampNeg) (fun _ => 0) h0_all q18 f_h0 _ _ _ hF q_h0_all q_h0_size r_h0 hP1 hD1 hS1 (lv_sub hl [0, 1] rfl)
set_option maxHeartbeats 4000000 in
set_option maxRecDepth 100000 in
theorem b_MN_add_1 {p : Program} {l : Launch} {e : Env} {s : State} {m : MethodId} {args : Array Value} {below : List Frame} {meth : Method} {c : Code} {D : va_G} {tA : Nat → ClassId} {A : Nat → Prop} {h0 : Nat} {f0_h0 : List Value} {l1 : Int32} {out : Nat × Nat × Nat × Int32 × (Nat → Int32)} (hx : p.tables.exec = Jvm.exec) (hb : c.code = prog_18_method_2_code) (hr : meth.sig.returnType = (Option.none : Option Jvm.ClassFile.FieldType)) (hml : c.maxLocals = 4) (hh : zH s) (hg : ∀ w ∈ lw_R, w.before args s = true) (hown : s.vm.findClass "ChanceArenaModel$Numbers" = some m.cls) (hlocks : meth.locks = false) (hK : va_K D vwCl (zT tA) s) (hA : ∀ q, s.heap.size ≤ q → A q) {n : Nat} (ih2 : ∀ (mc : Nat) (ms : Nat) (h0_all_n : Nat) (h0_size : Int32) (h0_all_c : Nat → Int32) (l3 : Int32) (q18_n : Nat) (q18_c : Nat → Int32) (h0_all : Nat) (q18 : Nat) (f_h0 : List Value) (H : Heap) (locs : List Loc) (ls : Array Slot), f_MN_add l1 n 2 mc ms h0_all_n h0_size h0_all_c l3 q18_n q18_c = some out → f_h0[0]? = some (.ref h0_all) → f_h0[1]? = some (.int h0_size) → Fr [0, 1] f0_h0 f_h0 → va_P D vwCl [(h0, .inr (14, f_h0)), (h0_all, .inl (tA 0, h0_all_n, .inl h0_all_c)), (q18, .inl (tA 0, q18_n, .inl q18_c))] H → va_D A [(h0, .inr (14, f_h0)), (h0_all, .inl (tA 0, h0_all_n, .inl h0_all_c)), (q18, .inl (tA 0, q18_n, .inl q18_c))] → va_S A s.heap H locs → lv_has ls 4 [(0, .ref h0), (1, .int l1), (2, .ref q18), (3, .int l3)] → W p l e { frames := 0, cells := out.1, slots := out.2.1, locals := 0 } s m args below meth c H locs mc ms (MQ below (va_Qv (fun (u9 : List Value × Nat) => Fr [0, 1] f0_h0 u9.1 ∧ u9.1[1]? = some (.int out.2.2.2.1) ∧ u9.1[0]? = some (.ref u9.2)) (zPost D A (fun (u9 : List Value × Nat) => [(h0, .inr (14, u9.1)), (u9.2, .inl (tA 0, out.2.2.1, .inl out.2.2.2.2))])) A) args s out.1 out.2.1 A) (F0 m 23 ls [])) : ∀ (mc : Nat) (ms : Nat) (h0_all_n : Nat) (h0_size : Int32) (h0_all_c : Nat → Int32) (l3 : Int32) (q18_n : Nat) (q18_c : Nat → Int32) (h0_all : Nat) (q18 : Nat) (f_h0 : List Value) (H : Heap) (locs : List Loc) (ls : Array Slot), f_MN_add l1 (n + 1) 1 mc ms h0_all_n h0_size h0_all_c l3 q18_n q18_c = some out → f_h0[0]? = some (.ref h0_all) → f_h0[1]? = some (.int h0_size) → Fr [0, 1] f0_h0 f_h0 → va_P D vwCl [(h0, .inr (14, f_h0)), (h0_all, .inl (tA 0, h0_all_n, .inl h0_all_c)), (q18, .inl (tA 0, q18_n, .inl q18_c))] H → va_D A [(h0, .inr (14, f_h0)), (h0_all, .inl (tA 0, h0_all_n, .inl h0_all_c)), (q18, .inl (tA 0, q18_n, .inl q18_c))] → va_S A s.heap H locs → lv_has ls 4 [(0, .ref h0), (1, .int l1)] → W p l e { frames := 0, cells := out.1, slots := out.2.1, locals := 0 } s m args below meth c H locs mc ms (MQ below (va_Qv (fun (u9 : List Value × Nat) => Fr [0, 1] f0_h0 u9.1 ∧ u9.1[1]? = some (.int out.2.2.2.1) ∧ u9.1[0]? = some (.ref u9.2)) (zPost D A (fun (u9 : List Value × Nat) => [(h0, .inr (14, u9.1)), (u9.2, .inl (tA 0, out.2.2.1, .inl out.2.2.2.2))])) A) args s out.1 out.2.1 A) (F0 m 20 ls [.ref q18]) := by
  intro mc ms h0_all_n h0_size h0_all_c l3 q18_n q18_c h0_all q18 f_h0 H locs ls hF q_h0_all q_h0_size r_h0 hP hD hS hl
  have hm := (n_MN_add (n + 1)).2.1 _ _ _ _ _ _ _ _ hF
  rw [e_MN_add_1] at hF
  obtain ⟨_, hF⟩ := chk_some hF
  refine lv_astore_n (lv' := [(2, .ref q18), (0, .ref h0), (1, .int l1)]) hx hb d_MN_add_20 rfl hl (by decide) rfl (fun ls hl => ?_)
  refine lv_iconst (v := 0) hx hb d_MN_add_21 (by decide) ?_
  refine lv_istore_n (lv' := [(3, .int 0), (2, .ref q18), (0, .ref h0), (1, .int l1)]) hx hb d_MN_add_22 rfl hl (by decide) rfl (fun ls hl => ?_)
  exact ih2 mc ms h0_all_n h0_size h0_all_c 0 q18_n q18_c h0_all q18 f_h0 _ _ _ hF q_h0_all q_h0_size r_h0 hP hD hS (lv_sub hl [2, 3, 1, 0] rfl)
set_option maxHeartbeats 4000000 in
set_option maxRecDepth 100000 in
theorem b_MN_add_2 {p : Program} {l : Launch} {e : Env} {s : State} {m : MethodId} {args : Array Value} {below : List Frame} {meth : Method} {c : Code} {D : va_G} {tA : Nat → ClassId} {A : Nat → Prop} {h0 : Nat} {f0_h0 : List Value} {l1 : Int32} {out : Nat × Nat × Nat × Int32 × (Nat → Int32)} (hx : p.tables.exec = Jvm.exec) (hb : c.code = prog_18_method_2_code) (hr : meth.sig.returnType = (Option.none : Option Jvm.ClassFile.FieldType)) (hml : c.maxLocals = 4) (hh : zH s) (hg : ∀ w ∈ lw_R, w.before args s = true) (hown : s.vm.findClass "ChanceArenaModel$Numbers" = some m.cls) (hlocks : meth.locks = false) (hK : va_K D vwCl (zT tA) s) (hA : ∀ q, s.heap.size ≤ q → A q) {n : Nat} (ih2 : ∀ (mc : Nat) (ms : Nat) (h0_all_n : Nat) (h0_size : Int32) (h0_all_c : Nat → Int32) (l3 : Int32) (q18_n : Nat) (q18_c : Nat → Int32) (h0_all : Nat) (q18 : Nat) (f_h0 : List Value) (H : Heap) (locs : List Loc) (ls : Array Slot), f_MN_add l1 n 2 mc ms h0_all_n h0_size h0_all_c l3 q18_n q18_c = some out → f_h0[0]? = some (.ref h0_all) → f_h0[1]? = some (.int h0_size) → Fr [0, 1] f0_h0 f_h0 → va_P D vwCl [(h0, .inr (14, f_h0)), (h0_all, .inl (tA 0, h0_all_n, .inl h0_all_c)), (q18, .inl (tA 0, q18_n, .inl q18_c))] H → va_D A [(h0, .inr (14, f_h0)), (h0_all, .inl (tA 0, h0_all_n, .inl h0_all_c)), (q18, .inl (tA 0, q18_n, .inl q18_c))] → va_S A s.heap H locs → lv_has ls 4 [(0, .ref h0), (1, .int l1), (2, .ref q18), (3, .int l3)] → W p l e { frames := 0, cells := out.1, slots := out.2.1, locals := 0 } s m args below meth c H locs mc ms (MQ below (va_Qv (fun (u9 : List Value × Nat) => Fr [0, 1] f0_h0 u9.1 ∧ u9.1[1]? = some (.int out.2.2.2.1) ∧ u9.1[0]? = some (.ref u9.2)) (zPost D A (fun (u9 : List Value × Nat) => [(h0, .inr (14, u9.1)), (u9.2, .inl (tA 0, out.2.2.1, .inl out.2.2.2.2))])) A) args s out.1 out.2.1 A) (F0 m 23 ls [])) : ∀ (mc : Nat) (ms : Nat) (h0_all_n : Nat) (h0_size : Int32) (h0_all_c : Nat → Int32) (l3 : Int32) (q18_n : Nat) (q18_c : Nat → Int32) (h0_all : Nat) (q18 : Nat) (f_h0 : List Value) (H : Heap) (locs : List Loc) (ls : Array Slot), f_MN_add l1 (n + 1) 2 mc ms h0_all_n h0_size h0_all_c l3 q18_n q18_c = some out → f_h0[0]? = some (.ref h0_all) → f_h0[1]? = some (.int h0_size) → Fr [0, 1] f0_h0 f_h0 → va_P D vwCl [(h0, .inr (14, f_h0)), (h0_all, .inl (tA 0, h0_all_n, .inl h0_all_c)), (q18, .inl (tA 0, q18_n, .inl q18_c))] H → va_D A [(h0, .inr (14, f_h0)), (h0_all, .inl (tA 0, h0_all_n, .inl h0_all_c)), (q18, .inl (tA 0, q18_n, .inl q18_c))] → va_S A s.heap H locs → lv_has ls 4 [(0, .ref h0), (1, .int l1), (2, .ref q18), (3, .int l3)] → W p l e { frames := 0, cells := out.1, slots := out.2.1, locals := 0 } s m args below meth c H locs mc ms (MQ below (va_Qv (fun (u9 : List Value × Nat) => Fr [0, 1] f0_h0 u9.1 ∧ u9.1[1]? = some (.int out.2.2.2.1) ∧ u9.1[0]? = some (.ref u9.2)) (zPost D A (fun (u9 : List Value × Nat) => [(h0, .inr (14, u9.1)), (u9.2, .inl (tA 0, out.2.2.1, .inl out.2.2.2.2))])) A) args s out.1 out.2.1 A) (F0 m 23 ls []) := by
  intro mc ms h0_all_n h0_size h0_all_c l3 q18_n q18_c h0_all q18 f_h0 H locs ls hF q_h0_all q_h0_size r_h0 hP hD hS hl
  have hm := (n_MN_add (n + 1)).2.2 _ _ _ _ _ _ _ _ hF
  rw [e_MN_add_2] at hF
  refine lv_iload_n hx hb d_MN_add_23 rfl (lv_at hl 3 rfl) ?_
  refine lv_aload_n hx hb d_MN_add_24 rfl (lv_at hl 0 rfl) ?_
  refine va_get (D := D) (ci := 14) (v := .int h0_size) (C := R_MN) (T := T_MN) (N := 2) hx hb hg i_MN hown hK hP 0 rfl rfl 1 (by decide) (hg _ k8_213) (fun _ h9 => h9) q_h0_size d_MN_add_25 ?_
  refine lv_icmp_ge (tgt := 46) hx hb d_MN_add_28 (by decide) (fun c9 => ?_) (fun c9 => ?_)
  · replace hF := ifp c9 hF
    refine lv_aload_n hx hb d_MN_add_46 rfl (lv_at hl 0 rfl) ?_
    refine lv_aload_n hx hb d_MN_add_47 rfl (lv_at hl 2 rfl) ?_
    refine va_put (D := D) (ci := 14) (v := .ref q18) (ty := .array .int) (C := R_MN) (T := T_MN) (N := 2) hx hb hg i_MN t_MN o_MN n_MN hown hK hP hD hS 0 rfl rfl 0 (by decide) (hg _ k8_211) (fun _ h9 => h9) rfl (by decide +kernel) rfl rfl (zLen q_h0_all) d_MN_add_48 (fun H1 locs1 hP1 hD1 hS1 => ?_)
    clear hP hD hS
    replace hP1 : va_P D vwCl [(h0, .inr (14, f_h0.set 0 (.ref q18))), (h0_all, .inl (tA 0, h0_all_n, .inl h0_all_c)), (q18, .inl (tA 0, q18_n, .inl q18_c))] _ := hP1
    replace hD1 : va_D A [(h0, .inr (14, f_h0.set 0 (.ref q18))), (h0_all, .inl (tA 0, h0_all_n, .inl h0_all_c)), (q18, .inl (tA 0, q18_n, .inl q18_c))] := hD1
    refine lv_aload_n hx hb d_MN_add_51 rfl (lv_at hl 0 rfl) ?_
    refine va_get (D := D) (ci := 14) (v := .ref q18) (C := R_MN) (T := T_MN) (N := 2) hx hb hg i_MN hown hK hP1 0 rfl rfl 0 (by decide) (hg _ k8_211) (fun _ h9 => h9) (zSetS q_h0_all) d_MN_add_52 ?_
    refine lv_aload_n hx hb d_MN_add_55 rfl (lv_at hl 0 rfl) ?_
    refine va_get (D := D) (ci := 14) (v := .int h0_size) (C := R_MN) (T := T_MN) (N := 2) hx hb hg i_MN hown hK hP1 0 rfl rfl 1 (by decide) (hg _ k8_213) (fun _ h9 => h9) (zSetN (by decide) q_h0_size) d_MN_add_56 ?_
    refine lv_iload_n hx hb d_MN_add_59 rfl (lv_at hl 1 rfl) ?_
    obtain ⟨h9, hF⟩ := chk_some hF
    refine va_iast hx hb hK hP1 hD1 hS1 2 0 rfl rfl (vp_in_iff.mpr h9) d_MN_add_60 (fun H2 locs2 hP2 hD2 hS2 => ?_)
    clear hP1 hD1 hS1
    replace hP2 : va_P D vwCl [(h0, .inr (14, f_h0.set 0 (.ref q18))), (h0_all, .inl (tA 0, h0_all_n, .inl h0_all_c)), (q18, .inl (tA 0, q18_n, .inl (upd q18_c (h0_size : Int32).toNatClampNeg l1)))] _ := hP2
    replace hD2 : va_D A [(h0, .inr (14, f_h0.set 0 (.ref q18))), (h0_all, .inl (tA 0, h0_all_n, .inl h0_all_c)), (q18, .inl (tA 0, q18_n, .inl (upd q18_c (h0_size : Int32).toNatClampNeg l1)))] := hD2
    refine lv_aload_n hx hb d_MN_add_61 rfl (lv_at hl 0 rfl) ?_
    refine lv_aload_n hx hb d_MN_add_62 rfl (lv_at hl 0 rfl) ?_
    refine va_get (D := D) (ci := 14) (v := .int h0_size) (C := R_MN) (T := T_MN) (N := 2) hx hb hg i_MN hown hK hP2 0 rfl rfl 1 (by decide) (hg _ k8_213) (fun _ h9 => h9) (zSetN (by decide) q_h0_size) d_MN_add_63 ?_
    refine lv_iconst (v := 1) hx hb d_MN_add_66 (by decide) ?_
    refine lv_iadd hx hb d_MN_add_67 ?_
    refine va_put (D := D) (ci := 14) (v := .int (h0_size + 1)) (ty := .int) (C := R_MN) (T := T_MN) (N := 2) hx hb hg i_MN t_MN o_MN n_MN hown hK hP2 hD2 hS2 0 rfl rfl 1 (by decide) (hg _ k8_213) (fun _ h9 => h9) rfl (by decide +kernel) rfl rfl (zLen (zSetN (by decide) q_h0_size)) d_MN_add_68 (fun H3 locs3 hP3 hD3 hS3 => ?_)
    clear hP2 hD2 hS2
    replace hP3 : va_P D vwCl [(h0, .inr (14, (f_h0.set 0 (.ref q18)).set 1 (.int (h0_size + 1)))), (h0_all, .inl (tA 0, h0_all_n, .inl h0_all_c)), (q18, .inl (tA 0, q18_n, .inl (upd q18_c (h0_size : Int32).toNatClampNeg l1)))] _ := hP3
    replace hD3 : va_D A [(h0, .inr (14, (f_h0.set 0 (.ref q18)).set 1 (.int (h0_size + 1)))), (h0_all, .inl (tA 0, h0_all_n, .inl h0_all_c)), (q18, .inl (tA 0, q18_n, .inl (upd q18_c (h0_size : Int32).toNatClampNeg l1)))] := hD3
    replace hF := Option.some.inj hF
    subst hF
    exact zVret (post := (fun (u9 : List Value × Nat) => Fr [0, 1] f0_h0 u9.1 ∧ u9.1[1]? = some (.int ((mc, ms, q18_n, (h0_size + 1), upd q18_c (h0_size : Int32).toNatClampNeg l1).2.2.2.1)) ∧ u9.1[0]? = some (.ref u9.2))) (W1 := (fun (u9 : List Value × Nat) => [(h0, .inr (14, u9.1)), (u9.2, .inl (tA 0, (mc, ms, q18_n, (h0_size + 1), upd q18_c (h0_size : Int32).toNatClampNeg l1).2.2.1, .inl ((mc, ms, q18_n, (h0_size + 1), upd q18_c (h0_size : Int32).toNatClampNeg l1).2.2.2.2)))])) hx hb hr hlocks (zPc (wc := [(h0, .inr (14, (f_h0.set 0 (.ref q18)).set 1 (.int (h0_size + 1)))), (q18, .inl (tA 0, q18_n, .inl (upd q18_c (h0_size : Int32).toNatClampNeg l1)))]) hP3 [0, 2] rfl) (va_D.sub (ws' := [(h0, .inr (14, (f_h0.set 0 (.ref q18)).set 1 (.int (h0_size + 1)))), (q18, .inl (tA 0, q18_n, .inl (upd q18_c (h0_size : Int32).toNatClampNeg l1)))]) hD3 [0, 2] (by decide) rfl) hS3 ((f_h0.set 0 (.ref q18)).set 1 (.int (h0_size + 1)), q18) ⟨(Fr.set (Fr.set r_h0 (by decide)) (by decide)), (zSetS (zSetN (by decide) q_h0_size)), (zSetN (by decide) (zSetS q_h0_all))⟩ rfl d_MN_add_71
  · replace hF := ifn c9 hF
    refine lv_aload_n hx hb d_MN_add_31 rfl (lv_at hl 2 rfl) ?_
    refine lv_iload_n hx hb d_MN_add_32 rfl (lv_at hl 3 rfl) ?_
    refine lv_aload_n hx hb d_MN_add_33 rfl (lv_at hl 0 rfl) ?_
    refine va_get (D := D) (ci := 14) (v := .ref h0_all) (C := R_MN) (T := T_MN) (N := 2) hx hb hg i_MN hown hK hP 0 rfl rfl 0 (by decide) (hg _ k8_211) (fun _ h9 => h9) q_h0_all d_MN_add_34 ?_
    refine lv_iload_n hx hb d_MN_add_37 rfl (lv_at hl 3 rfl) ?_
    obtain ⟨h9, hF⟩ := chk_some hF
    refine va_iald hx hb hK hP 1 0 rfl rfl (vp_in_iff.mpr h9) d_MN_add_38 ?_
    obtain ⟨h9, hF⟩ := chk_some hF
    refine va_iast hx hb hK hP hD hS 2 0 rfl rfl (vp_in_iff.mpr h9) d_MN_add_39 (fun H1 locs1 hP1 hD1 hS1 => ?_)
    clear hP hD hS
    replace hP1 : va_P D vwCl [(h0, .inr (14, f_h0)), (h0_all, .inl (tA 0, h0_all_n, .inl h0_all_c)), (q18, .inl (tA 0, q18_n, .inl (upd q18_c (l3 : Int32).toNatClampNeg (h0_all_c (l3 : Int32).toNatClampNeg))))] _ := hP1
    replace hD1 : va_D A [(h0, .inr (14, f_h0)), (h0_all, .inl (tA 0, h0_all_n, .inl h0_all_c)), (q18, .inl (tA 0, q18_n, .inl (upd q18_c (l3 : Int32).toNatClampNeg (h0_all_c (l3 : Int32).toNatClampNeg))))] := hD1
    refine lv_iinc (v := (l3 + Int32.ofInt 1)) (lv' := [(3, .int (l3 + Int32.ofInt 1)), (0, .ref h0), (1, .int l1), (2, .ref q18)]) hx hb d_MN_add_40 hl (k := 3) rfl rfl (by decide) rfl (fun ls hl => ?_)
    refine lv_goto (tgt := 23) hx hb d_MN_add_43 (by decide) ?_
    exact ih2 mc ms h0_all_n h0_size h0_all_c (l3 + Int32.ofInt 1) q18_n (upd q18_c (l3 : Int32).toNatClampNeg (h0_all_c (l3 : Int32).toNatClampNeg)) h0_all q18 f_h0 _ _ _ hF q_h0_all q_h0_size r_h0 hP1 hD1 hS1 (lv_sub hl [1, 2, 3, 0] rfl)
set_option maxHeartbeats 4000000 in
set_option maxRecDepth 100000 in
theorem a_MN_add {p : Program} {l : Launch} {e : Env} {s : State} {m : MethodId} {args : Array Value} {below : List Frame} {meth : Method} {c : Code} {D : va_G} {tA : Nat → ClassId} {A : Nat → Prop} {h0 : Nat} {f0_h0 : List Value} {l1 : Int32} {out : Nat × Nat × Nat × Int32 × (Nat → Int32)} (hx : p.tables.exec = Jvm.exec) (hb : c.code = prog_18_method_2_code) (hr : meth.sig.returnType = (Option.none : Option Jvm.ClassFile.FieldType)) (hml : c.maxLocals = 4) (hh : zH s) (hg : ∀ w ∈ lw_R, w.before args s = true) (hown : s.vm.findClass "ChanceArenaModel$Numbers" = some m.cls) (hlocks : meth.locks = false) (hK : va_K D vwCl (zT tA) s) (hA : ∀ q, s.heap.size ≤ q → A q) : ∀ n : Nat, (∀ (mc : Nat) (ms : Nat) (h0_all_n : Nat) (h0_size : Int32) (h0_all_c : Nat → Int32) (l3 : Int32) (q18_n : Nat) (q18_c : Nat → Int32) (h0_all : Nat) (f_h0 : List Value) (H : Heap) (locs : List Loc) (ls : Array Slot), f_MN_add l1 n 0 mc ms h0_all_n h0_size h0_all_c l3 q18_n q18_c = some out → f_h0[0]? = some (.ref h0_all) → f_h0[1]? = some (.int h0_size) → Fr [0, 1] f0_h0 f_h0 → va_P D vwCl [(h0, .inr (14, f_h0)), (h0_all, .inl (tA 0, h0_all_n, .inl h0_all_c))] H → va_D A [(h0, .inr (14, f_h0)), (h0_all, .inl (tA 0, h0_all_n, .inl h0_all_c))] → va_S A s.heap H locs → lv_has ls 4 [(0, .ref h0), (1, .int l1)] → W p l e { frames := 0, cells := out.1, slots := out.2.1, locals := 0 } s m args below meth c H locs mc ms (MQ below (va_Qv (fun (u9 : List Value × Nat) => Fr [0, 1] f0_h0 u9.1 ∧ u9.1[1]? = some (.int out.2.2.2.1) ∧ u9.1[0]? = some (.ref u9.2)) (zPost D A (fun (u9 : List Value × Nat) => [(h0, .inr (14, u9.1)), (u9.2, .inl (tA 0, out.2.2.1, .inl out.2.2.2.2))])) A) args s out.1 out.2.1 A) (F0 m 0 ls [])) ∧ (∀ (mc : Nat) (ms : Nat) (h0_all_n : Nat) (h0_size : Int32) (h0_all_c : Nat → Int32) (l3 : Int32) (q18_n : Nat) (q18_c : Nat → Int32) (h0_all : Nat) (q18 : Nat) (f_h0 : List Value) (H : Heap) (locs : List Loc) (ls : Array Slot), f_MN_add l1 n 1 mc ms h0_all_n h0_size h0_all_c l3 q18_n q18_c = some out → f_h0[0]? = some (.ref h0_all) → f_h0[1]? = some (.int h0_size) → Fr [0, 1] f0_h0 f_h0 → va_P D vwCl [(h0, .inr (14, f_h0)), (h0_all, .inl (tA 0, h0_all_n, .inl h0_all_c)), (q18, .inl (tA 0, q18_n, .inl q18_c))] H → va_D A [(h0, .inr (14, f_h0)), (h0_all, .inl (tA 0, h0_all_n, .inl h0_all_c)), (q18, .inl (tA 0, q18_n, .inl q18_c))] → va_S A s.heap H locs → lv_has ls 4 [(0, .ref h0), (1, .int l1)] → W p l e { frames := 0, cells := out.1, slots := out.2.1, locals := 0 } s m args below meth c H locs mc ms (MQ below (va_Qv (fun (u9 : List Value × Nat) => Fr [0, 1] f0_h0 u9.1 ∧ u9.1[1]? = some (.int out.2.2.2.1) ∧ u9.1[0]? = some (.ref u9.2)) (zPost D A (fun (u9 : List Value × Nat) => [(h0, .inr (14, u9.1)), (u9.2, .inl (tA 0, out.2.2.1, .inl out.2.2.2.2))])) A) args s out.1 out.2.1 A) (F0 m 20 ls [.ref q18])) ∧ (∀ (mc : Nat) (ms : Nat) (h0_all_n : Nat) (h0_size : Int32) (h0_all_c : Nat → Int32) (l3 : Int32) (q18_n : Nat) (q18_c : Nat → Int32) (h0_all : Nat) (q18 : Nat) (f_h0 : List Value) (H : Heap) (locs : List Loc) (ls : Array Slot), f_MN_add l1 n 2 mc ms h0_all_n h0_size h0_all_c l3 q18_n q18_c = some out → f_h0[0]? = some (.ref h0_all) → f_h0[1]? = some (.int h0_size) → Fr [0, 1] f0_h0 f_h0 → va_P D vwCl [(h0, .inr (14, f_h0)), (h0_all, .inl (tA 0, h0_all_n, .inl h0_all_c)), (q18, .inl (tA 0, q18_n, .inl q18_c))] H → va_D A [(h0, .inr (14, f_h0)), (h0_all, .inl (tA 0, h0_all_n, .inl h0_all_c)), (q18, .inl (tA 0, q18_n, .inl q18_c))] → va_S A s.heap H locs → lv_has ls 4 [(0, .ref h0), (1, .int l1), (2, .ref q18), (3, .int l3)] → W p l e { frames := 0, cells := out.1, slots := out.2.1, locals := 0 } s m args below meth c H locs mc ms (MQ below (va_Qv (fun (u9 : List Value × Nat) => Fr [0, 1] f0_h0 u9.1 ∧ u9.1[1]? = some (.int out.2.2.2.1) ∧ u9.1[0]? = some (.ref u9.2)) (zPost D A (fun (u9 : List Value × Nat) => [(h0, .inr (14, u9.1)), (u9.2, .inl (tA 0, out.2.2.1, .inl out.2.2.2.2))])) A) args s out.1 out.2.1 A) (F0 m 23 ls [])) := by
  intro n
  induction n with
  | zero => exact ⟨(fun _ _ _ _ _ _ _ _ _ _ _ _ _ hF => by rw [z_MN_add] at hF; cases hF), (fun _ _ _ _ _ _ _ _ _ _ _ _ _ _ hF => by rw [z_MN_add] at hF; cases hF), (fun _ _ _ _ _ _ _ _ _ _ _ _ _ _ hF => by rw [z_MN_add] at hF; cases hF)⟩
  | succ n ih =>
    obtain ⟨i0, i1, i2⟩ := ih
    exact ⟨b_MN_add_0 hx hb hr hml hh hg hown hlocks hK hA i1, b_MN_add_1 hx hb hr hml hh hg hown hlocks hK hA i2, b_MN_add_2 hx hb hr hml hh hg hown hlocks hK hA i2⟩
set_option maxHeartbeats 4000000 in
set_option maxRecDepth 100000 in
theorem m_MN_add (l : Launch) (D : va_G) (tA : Nat → ClassId) (sz : Nat) (h0 h0_all : Nat) (f0_h0 : List Value) (l1 : Int32) (h0_all_n : Nat) (h0_size : Int32) (h0_all_c : Nat → Int32) (q_h0_all : f0_h0[0]? = some (.ref h0_all)) (q_h0_size : f0_h0[1]? = some (.int h0_size)) (n : Nat) (out : Nat × Nat × Nat × Int32 × (Nat → Int32)) (hF : f_MN_add l1 n 0 0 0 h0_all_n h0_size h0_all_c 0 0 (fun _ => 0) = some out) : zMv l ({ cls := "ChanceArenaModel$Numbers", name := "add", desc := "(I)V" } : Jvm.MethodName) (zW (Jvm.Cond.code ({ cls := "ChanceArenaModel$Numbers", name := "add", desc := "(I)V" } : Jvm.MethodName) prog_18_method_2_code (4 : Nat) (Option.none : Option Jvm.ClassFile.FieldType))) { frames := 0, cells := out.1, slots := out.2.1, locals := 0 } [.ref h0, .int l1] D tA [(h0, .inr (14, f0_h0)), (h0_all, .inl (tA 0, h0_all_n, .inl h0_all_c))] sz (fun (u9 : List Value × Nat) => Fr [0, 1] f0_h0 u9.1 ∧ u9.1[1]? = some (.int out.2.2.2.1) ∧ u9.1[0]? = some (.ref u9.2)) (fun (u9 : List Value × Nat) => [(h0, .inr (14, u9.1)), (u9.2, .inl (tA 0, out.2.2.1, .inl out.2.2.2.2))]) out.1 out.2.1 := by
  refine zOpen (l := l) (y := ({ cls := "ChanceArenaModel$Numbers", name := "add", desc := "(I)V" } : Jvm.MethodName)) (ws := zW (Jvm.Cond.code ({ cls := "ChanceArenaModel$Numbers", name := "add", desc := "(I)V" } : Jvm.MethodName) prog_18_method_2_code (4 : Nat) (Option.none : Option Jvm.ClassFile.FieldType))) (rm := { frames := 0, cells := out.1, slots := out.2.1, locals := 0 }) (av := [.ref h0, .int l1]) (D := D) (tA := tA) (W0 := [(h0, .inr (14, f0_h0)), (h0_all, .inl (tA 0, h0_all_n, .inl h0_all_c))]) (Wm := [(h0, .inr (14, f0_h0)), (h0_all, .inl (tA 0, h0_all_n, .inl h0_all_c))]) (sz := sz) (mc := out.1) (ms := out.2.1) (fun A => va_Qv (fun (u9 : List Value × Nat) => Fr [0, 1] f0_h0 u9.1 ∧ u9.1[1]? = some (.int out.2.2.2.1) ∧ u9.1[0]? = some (.ref u9.2)) (zPost D A (fun (u9 : List Value × Nat) => [(h0, .inr (14, u9.1)), (u9.2, .inl (tA 0, out.2.2.1, .inl out.2.2.2.2))])) A) (lv := [(0, .ref h0), (1, .int l1)]) (by decide) rfl (Nat.le_of_ble_eq_true rfl) rfl ?_
  intro p e s m below meth c A ls hx hb hr hml hh hg hown hlocks hnm hK hA hP hD0 hAw hS hl
  have hD := zD hD0 hAw
  exact (a_MN_add hx hb hr hml hh hg hown hlocks hK hA n).1 0 0 h0_all_n h0_size h0_all_c 0 0 (fun _ => 0) h0_all f0_h0 _ _ _ hF q_h0_all q_h0_size Fr.rfl hP hD hS hl
def f_MM_letter (h0_text_all_n : Nat) (l1 : Int32) (h0_text_size : Int32) (h0_text_all_c : Nat → Int32) : Option (Int32) := if (h0_text_size : Int32) ≤ l1 then some (0) else Option.bind (f_MN_at h0_text_all_n l1 h0_text_all_c) (fun o1 => some (o1))
set_option maxHeartbeats 4000000 in
set_option maxRecDepth 100000 in
theorem b_MM_letter_0 {p : Program} {l : Launch} {e : Env} {s : State} {m : MethodId} {args : Array Value} {below : List Frame} {meth : Method} {c : Code} {D : va_G} {tA : Nat → ClassId} {A : Nat → Prop} {h0 h0_text h0_text_all : Nat} {f0_h0 f0_h0_text : List Value} {h0_text_all_n : Nat} {l1 : Int32} {h0_text_size : Int32} {h0_text_all_c : Nat → Int32} {out : Int32} (hx : p.tables.exec = Jvm.exec) (hb : c.code = prog_15_method_6_code) (hr : meth.sig.returnType = (Option.some Jvm.ClassFile.FieldType.int)) (hml : c.maxLocals = 2) (hh : zH s) (hg : ∀ w ∈ lw_R, w.before args s = true) (hown : s.vm.findClass "ChanceArenaModel" = some m.cls) (hlocks : meth.locks = false) (hK : va_K D vwCl (zT tA) s) (hA : ∀ q, s.heap.size ≤ q → A q)  : ∀ (H : Heap) (locs : List Loc) (ls : Array Slot), f_MM_letter h0_text_all_n l1 h0_text_size h0_text_all_c = some out → f0_h0[2]? = some (.ref h0_text) → f0_h0_text[0]? = some (.ref h0_text_all) → f0_h0_text[1]? = some (.int h0_text_size) → va_P D vwCl [(h0, .inr (13, f0_h0)), (h0_text, .inr (14, f0_h0_text)), (h0_text_all, .inl (tA 0, h0_text_all_n, .inl h0_text_all_c))] H → va_D A [(h0, .inr (13, f0_h0)), (h0_text, .inr (14, f0_h0_text)), (h0_text_all, .inl (tA 0, h0_text_all_n, .inl h0_text_all_c))] → va_S A s.heap H locs → lv_has ls 2 [(0, .ref h0), (1, .int l1)] → W p l e { frames := 1, cells := 0, slots := 0, locals := 21 } s m args below meth c H locs 0 0 (MQ below (va_Qi (fun (r9 : Int32) (u9 : Unit) => r9 = out) (zPost D A (fun (u9 : Unit) => [(h0, .inr (13, f0_h0)), (h0_text, .inr (14, f0_h0_text)), (h0_text_all, .inl (tA 0, h0_text_all_n, .inl h0_text_all_c))])) A) args s 0 0 A) (F0 m 0 ls []) := by
  intro    H locs ls hF q_h0_text q_h0_text_all q_h0_text_size hP hD hS hl
  replace hF : ((if (h0_text_size : Int32) ≤ l1 then some (0) else Option.bind (f_MN_at h0_text_all_n l1 h0_text_all_c) (fun o1 => some (o1))) : Option (Int32)) = some out := hF
  refine lv_iload_n hx hb d_MM_letter_0 rfl (lv_at hl 1 rfl) ?_
  refine lv_aload_n hx hb d_MM_letter_1 rfl (lv_at hl 0 rfl) ?_
  refine va_get (D := D) (ci := 13) (v := .ref h0_text) (C := R_MM) (T := T_MM) (N := 49) hx hb hg i_MM hown hK hP 0 rfl rfl 2 (by decide) (hg _ k10_48) (fun _ h9 => h9) q_h0_text d_MM_letter_2 ?_
  refine va_getN (D := D) (ci := 14) (v := .int h0_text_size) (C := R_MN) (T := T_MN) (N := 2) hx hb hg i_MN hown hK hP 1 rfl rfl 1 (by decide) (hg _ k8_215) (fun _ h9 => h9) q_h0_text_size d_MM_letter_5 ?_
  refine lv_icmp_ge (tgt := 22) hx hb d_MM_letter_8 (by decide) (fun c9 => ?_) (fun c9 => ?_)
  · replace hF := ifp c9 hF
    refine lv_iconst (v := 0) hx hb d_MM_letter_22 (by decide) ?_
    replace hF := Option.some.inj hF
    subst hF
    exact zZret (post := (fun (r9 : Int32) (u9 : Unit) => r9 = 0)) (W1 := (fun (u9 : Unit) => [(h0, .inr (13, f0_h0)), (h0_text, .inr (14, f0_h0_text)), (h0_text_all, .inl (tA 0, h0_text_all_n, .inl h0_text_all_c))])) (v := 0) hx hb hr rfl hlocks hP hD hS () rfl rfl d_MM_letter_23
  · replace hF := ifn c9 hF
    refine lv_aload_n hx hb d_MM_letter_11 rfl (lv_at hl 0 rfl) ?_
    refine va_get (D := D) (ci := 13) (v := .ref h0_text) (C := R_MM) (T := T_MM) (N := 49) hx hb hg i_MM hown hK hP 0 rfl rfl 2 (by decide) (hg _ k10_48) (fun _ h9 => h9) q_h0_text d_MM_letter_12 ?_
    refine lv_iload_n hx hb d_MM_letter_15 rfl (lv_at hl 1 rfl) ?_
    obtain ⟨o1, h1, hF⟩ := bsome hF
    refine zCalli (wc := [(h0_text, .inr (14, f0_h0_text)), (h0_text_all, .inl (tA 0, h0_text_all_n, .inl h0_text_all_c))]) (wr := [(h0, .inr (13, f0_h0))]) hP hD hS hA [1, 2] [0] rfl rfl (by decide) (by decide) (va_runV (As := [.int l1]) (rest := []) ⟨hx, hb, hml, hown, hg⟩ (m_MN_at l D tA _ h0_text h0_text_all f0_h0_text h0_text_all_n l1 h0_text_all_c q_h0_text_all o1 h1) (zV 1 hg k10_230 k10_231 k10_232 k1_15 k10_233 rfl rfl (by decide +kernel) ⟨(Nat.le_of_ble_eq_true rfl), (Nat.le_of_ble_eq_true rfl)⟩) (zPreV hh hK hP hD [1, 2] (by decide) rfl (ci := 14) rfl 0 rfl) rfl rfl hl.1 rfl (lv_room (Nat.le_of_ble_eq_true rfl)) d_MM_letter_16 ⟨(Nat.le_of_ble_eq_true rfl), (Nat.le_of_ble_eq_true rfl)⟩) (fun r1 u1 H1 locs1 e1 hP1 hD1 hS1 => ?_)
    clear hP hD hS
    refine W.cs (cells' := 0) (slots' := 0) rfl rfl ?_
    have x1 := e1
    rw [x1]
    replace hP1 : va_P D vwCl [(h0, .inr (13, f0_h0)), (h0_text, .inr (14, f0_h0_text)), (h0_text_all, .inl (tA 0, h0_text_all_n, .inl h0_text_all_c))] _ := hP1
    replace hD1 : va_D A [(h0, .inr (13, f0_h0)), (h0_text, .inr (14, f0_h0_text)), (h0_text_all, .inl (tA 0, h0_text_all_n, .inl h0_text_all_c))] := hD1
    refine lv_goto (tgt := 23) hx hb d_MM_letter_19 (by decide) ?_
    replace hF := Option.some.inj hF
    subst hF
    exact zZret (post := (fun (r9 : Int32) (u9 : Unit) => r9 = o1)) (W1 := (fun (u9 : Unit) => [(h0, .inr (13, f0_h0)), (h0_text, .inr (14, f0_h0_text)), (h0_text_all, .inl (tA 0, h0_text_all_n, .inl h0_text_all_c))])) (v := o1) hx hb hr rfl hlocks hP1 hD1 hS1 () rfl rfl d_MM_letter_23
set_option maxHeartbeats 4000000 in
set_option maxRecDepth 100000 in
theorem m_MM_letter (l : Launch) (D : va_G) (tA : Nat → ClassId) (sz : Nat) (h0 h0_text h0_text_all : Nat) (f0_h0 f0_h0_text : List Value) (h0_text_all_n : Nat) (l1 : Int32) (h0_text_size : Int32) (h0_text_all_c : Nat → Int32) (q_h0_text : f0_h0[2]? = some (.ref h0_text)) (q_h0_text_all : f0_h0_text[0]? = some (.ref h0_text_all)) (q_h0_text_size : f0_h0_text[1]? = some (.int h0_text_size)) (out : Int32) (hF : f_MM_letter h0_text_all_n l1 h0_text_size h0_text_all_c = some out) : zMi l ({ cls := "ChanceArenaModel", name := "letter", desc := "(I)I" } : Jvm.MethodName) (zW (Jvm.Cond.code ({ cls := "ChanceArenaModel", name := "letter", desc := "(I)I" } : Jvm.MethodName) prog_15_method_6_code (2 : Nat) (Option.some Jvm.ClassFile.FieldType.int))) { frames := 1, cells := 0, slots := 0, locals := 21 } [.ref h0, .int l1] D tA [(h0, .inr (13, f0_h0)), (h0_text, .inr (14, f0_h0_text)), (h0_text_all, .inl (tA 0, h0_text_all_n, .inl h0_text_all_c))] sz (fun (r9 : Int32) (u9 : Unit) => r9 = out) (fun (u9 : Unit) => [(h0, .inr (13, f0_h0)), (h0_text, .inr (14, f0_h0_text)), (h0_text_all, .inl (tA 0, h0_text_all_n, .inl h0_text_all_c))]) 0 0 := by
  refine zOpen (l := l) (y := ({ cls := "ChanceArenaModel", name := "letter", desc := "(I)I" } : Jvm.MethodName)) (ws := zW (Jvm.Cond.code ({ cls := "ChanceArenaModel", name := "letter", desc := "(I)I" } : Jvm.MethodName) prog_15_method_6_code (2 : Nat) (Option.some Jvm.ClassFile.FieldType.int))) (rm := { frames := 1, cells := 0, slots := 0, locals := 21 }) (av := [.ref h0, .int l1]) (D := D) (tA := tA) (W0 := [(h0, .inr (13, f0_h0)), (h0_text, .inr (14, f0_h0_text)), (h0_text_all, .inl (tA 0, h0_text_all_n, .inl h0_text_all_c))]) (Wm := [(h0, .inr (13, f0_h0)), (h0_text, .inr (14, f0_h0_text)), (h0_text_all, .inl (tA 0, h0_text_all_n, .inl h0_text_all_c))]) (sz := sz) (mc := 0) (ms := 0) (fun A => va_Qi (fun (r9 : Int32) (u9 : Unit) => r9 = out) (zPost D A (fun (u9 : Unit) => [(h0, .inr (13, f0_h0)), (h0_text, .inr (14, f0_h0_text)), (h0_text_all, .inl (tA 0, h0_text_all_n, .inl h0_text_all_c))])) A) (lv := [(0, .ref h0), (1, .int l1)]) (by decide) rfl (Nat.le_of_ble_eq_true rfl) rfl ?_
  intro p e s m below meth c A ls hx hb hr hml hh hg hown hlocks hnm hK hA hP hD0 hAw hS hl
  have hD := zD hD0 hAw
  exact b_MM_letter_0 hx hb hr hml hh hg hown hlocks hK hA    _ _ _ hF q_h0_text q_h0_text_all q_h0_text_size hP hD hS hl
def f_MM_isLetter (l0 : Int32) : Option (Int32) := if (l0 : Int32) < 97 then (if (l0 : Int32) < 65 then some (0) else if (90 : Int32) < l0 then some (0) else some (1)) else if (l0 : Int32) ≤ 122 then some (1) else if (l0 : Int32) < 65 then some (0) else if (90 : Int32) < l0 then some (0) else some (1)
set_option maxHeartbeats 4000000 in
set_option maxRecDepth 100000 in
theorem b_MM_isLetter_0 {p : Program} {l : Launch} {e : Env} {s : State} {m : MethodId} {args : Array Value} {below : List Frame} {meth : Method} {c : Code} {D : va_G} {tA : Nat → ClassId} {A : Nat → Prop} {l0 : Int32} {out : Int32} (hx : p.tables.exec = Jvm.exec) (hb : c.code = prog_15_method_7_code) (hr : meth.sig.returnType = (Option.some Jvm.ClassFile.FieldType.boolean)) (hml : c.maxLocals = 1) (hh : zH s) (hg : ∀ w ∈ lw_R, w.before args s = true) (hown : s.vm.findClass "ChanceArenaModel" = some m.cls) (hlocks : meth.locks = false) (hK : va_K D vwCl (zT tA) s) (hA : ∀ q, s.heap.size ≤ q → A q)  : ∀ (H : Heap) (locs : List Loc) (ls : Array Slot), f_MM_isLetter l0 = some out → va_P D vwCl [] H → va_D A [] → va_S A s.heap H locs → lv_has ls 1 [(0, .int l0)] → W p l e { frames := 0, cells := 0, slots := 0, locals := 0 } s m args below meth c H locs 0 0 (MQ below (va_Qi (fun (r9 : Int32) (u9 : Unit) => r9 = out) (zPost D A (fun (u9 : Unit) => [])) A) args s 0 0 A) (F0 m 0 ls []) := by
  intro    H locs ls hF  hP hD hS hl
  replace hF : ((if (l0 : Int32) < 97 then (if (l0 : Int32) < 65 then some (0) else if (90 : Int32) < l0 then some (0) else some (1)) else if (l0 : Int32) ≤ 122 then some (1) else if (l0 : Int32) < 65 then some (0) else if (90 : Int32) < l0 then some (0) else some (1)) : Option (Int32)) = some out := hF
  refine lv_iload_n hx hb d_MM_isLetter_0 rfl (lv_at hl 0 rfl) ?_
  refine lv_bipush (v := 97) hx hb d_MM_isLetter_1 (by decide) ?_
  refine lv_icmp_lt (tgt := 12) hx hb d_MM_isLetter_3 (by decide) (fun c9 => ?_) (fun c9 => ?_)
  · replace hF := ifp c9 hF
    refine lv_iload_n hx hb d_MM_isLetter_12 rfl (lv_at hl 0 rfl) ?_
    refine lv_bipush (v := 65) hx hb d_MM_isLetter_13 (by decide) ?_
    refine lv_icmp_lt (tgt := 28) hx hb d_MM_isLetter_15 (by decide) (fun c9 => ?_) (fun c9 => ?_)
    · replace hF := ifp c9 hF
      refine lv_iconst (v := 0) hx hb d_MM_isLetter_28 (by decide) ?_
      replace hF := Option.some.inj hF
      subst hF
      exact zZret (post := (fun (r9 : Int32) (u9 : Unit) => r9 = 0)) (W1 := (fun (u9 : Unit) => [])) (v := 0) hx hb hr rfl hlocks hP hD hS () rfl rfl d_MM_isLetter_29
    · replace hF := ifn c9 hF
      refine lv_iload_n hx hb d_MM_isLetter_18 rfl (lv_at hl 0 rfl) ?_
      refine lv_bipush (v := 90) hx hb d_MM_isLetter_19 (by decide) ?_
      refine lv_icmp_gt (tgt := 28) hx hb d_MM_isLetter_21 (by decide) (fun c9 => ?_) (fun c9 => ?_)
      · replace hF := ifp c9 hF
        refine lv_iconst (v := 0) hx hb d_MM_isLetter_28 (by decide) ?_
        replace hF := Option.some.inj hF
        subst hF
        exact zZret (post := (fun (r9 : Int32) (u9 : Unit) => r9 = 0)) (W1 := (fun (u9 : Unit) => [])) (v := 0) hx hb hr rfl hlocks hP hD hS () rfl rfl d_MM_isLetter_29
      · replace hF := ifn c9 hF
        refine lv_iconst (v := 1) hx hb d_MM_isLetter_24 (by decide) ?_
        refine lv_goto (tgt := 29) hx hb d_MM_isLetter_25 (by decide) ?_
        replace hF := Option.some.inj hF
        subst hF
        exact zZret (post := (fun (r9 : Int32) (u9 : Unit) => r9 = 1)) (W1 := (fun (u9 : Unit) => [])) (v := 1) hx hb hr rfl hlocks hP hD hS () rfl rfl d_MM_isLetter_29
  · replace hF := ifn c9 hF
    refine lv_iload_n hx hb d_MM_isLetter_6 rfl (lv_at hl 0 rfl) ?_
    refine lv_bipush (v := 122) hx hb d_MM_isLetter_7 (by decide) ?_
    refine lv_icmp_le (tgt := 24) hx hb d_MM_isLetter_9 (by decide) (fun c9 => ?_) (fun c9 => ?_)
    · replace hF := ifp c9 hF
      refine lv_iconst (v := 1) hx hb d_MM_isLetter_24 (by decide) ?_
      refine lv_goto (tgt := 29) hx hb d_MM_isLetter_25 (by decide) ?_
      replace hF := Option.some.inj hF
      subst hF
      exact zZret (post := (fun (r9 : Int32) (u9 : Unit) => r9 = 1)) (W1 := (fun (u9 : Unit) => [])) (v := 1) hx hb hr rfl hlocks hP hD hS () rfl rfl d_MM_isLetter_29
    · replace hF := ifn c9 hF
      refine lv_iload_n hx hb d_MM_isLetter_12 rfl (lv_at hl 0 rfl) ?_
      refine lv_bipush (v := 65) hx hb d_MM_isLetter_13 (by decide) ?_
      refine lv_icmp_lt (tgt := 28) hx hb d_MM_isLetter_15 (by decide) (fun c9 => ?_) (fun c9 => ?_)
      · replace hF := ifp c9 hF
        refine lv_iconst (v := 0) hx hb d_MM_isLetter_28 (by decide) ?_
        replace hF := Option.some.inj hF
        subst hF
        exact zZret (post := (fun (r9 : Int32) (u9 : Unit) => r9 = 0)) (W1 := (fun (u9 : Unit) => [])) (v := 0) hx hb hr rfl hlocks hP hD hS () rfl rfl d_MM_isLetter_29
      · replace hF := ifn c9 hF
        refine lv_iload_n hx hb d_MM_isLetter_18 rfl (lv_at hl 0 rfl) ?_
        refine lv_bipush (v := 90) hx hb d_MM_isLetter_19 (by decide) ?_
        refine lv_icmp_gt (tgt := 28) hx hb d_MM_isLetter_21 (by decide) (fun c9 => ?_) (fun c9 => ?_)
        · replace hF := ifp c9 hF
          refine lv_iconst (v := 0) hx hb d_MM_isLetter_28 (by decide) ?_
          replace hF := Option.some.inj hF
          subst hF
          exact zZret (post := (fun (r9 : Int32) (u9 : Unit) => r9 = 0)) (W1 := (fun (u9 : Unit) => [])) (v := 0) hx hb hr rfl hlocks hP hD hS () rfl rfl d_MM_isLetter_29
        · replace hF := ifn c9 hF
          refine lv_iconst (v := 1) hx hb d_MM_isLetter_24 (by decide) ?_
          refine lv_goto (tgt := 29) hx hb d_MM_isLetter_25 (by decide) ?_
          replace hF := Option.some.inj hF
          subst hF
          exact zZret (post := (fun (r9 : Int32) (u9 : Unit) => r9 = 1)) (W1 := (fun (u9 : Unit) => [])) (v := 1) hx hb hr rfl hlocks hP hD hS () rfl rfl d_MM_isLetter_29
set_option maxHeartbeats 4000000 in
set_option maxRecDepth 100000 in
theorem m_MM_isLetter (l : Launch) (D : va_G) (tA : Nat → ClassId) (sz : Nat) (l0 : Int32) (out : Int32) (hF : f_MM_isLetter l0 = some out) : zMi l ({ cls := "ChanceArenaModel", name := "isLetter", desc := "(I)Z" } : Jvm.MethodName) (zW (Jvm.Cond.code ({ cls := "ChanceArenaModel", name := "isLetter", desc := "(I)Z" } : Jvm.MethodName) prog_15_method_7_code (1 : Nat) (Option.some Jvm.ClassFile.FieldType.boolean))) { frames := 0, cells := 0, slots := 0, locals := 0 } [.int l0] D tA [] sz (fun (r9 : Int32) (u9 : Unit) => r9 = out) (fun (u9 : Unit) => []) 0 0 := by
  refine zOpen (l := l) (y := ({ cls := "ChanceArenaModel", name := "isLetter", desc := "(I)Z" } : Jvm.MethodName)) (ws := zW (Jvm.Cond.code ({ cls := "ChanceArenaModel", name := "isLetter", desc := "(I)Z" } : Jvm.MethodName) prog_15_method_7_code (1 : Nat) (Option.some Jvm.ClassFile.FieldType.boolean))) (rm := { frames := 0, cells := 0, slots := 0, locals := 0 }) (av := [.int l0]) (D := D) (tA := tA) (W0 := []) (Wm := []) (sz := sz) (mc := 0) (ms := 0) (fun A => va_Qi (fun (r9 : Int32) (u9 : Unit) => r9 = out) (zPost D A (fun (u9 : Unit) => [])) A) (lv := [(0, .int l0)]) (by decide) rfl (Nat.le_of_ble_eq_true rfl) rfl ?_
  intro p e s m below meth c A ls hx hb hr hml hh hg hown hlocks hnm hK hA hP hD0 hAw hS hl
  have hD := zD hD0 hAw
  exact b_MM_isLetter_0 hx hb hr hml hh hg hown hlocks hK hA    _ _ _ hF  hP hD hS hl
def f_MM_isDigit (l0 : Int32) : Option (Int32) := if (l0 : Int32) < 48 then some (0) else if (57 : Int32) < l0 then some (0) else some (1)
set_option maxHeartbeats 4000000 in
set_option maxRecDepth 100000 in
theorem b_MM_isDigit_0 {p : Program} {l : Launch} {e : Env} {s : State} {m : MethodId} {args : Array Value} {below : List Frame} {meth : Method} {c : Code} {D : va_G} {tA : Nat → ClassId} {A : Nat → Prop} {l0 : Int32} {out : Int32} (hx : p.tables.exec = Jvm.exec) (hb : c.code = prog_15_method_8_code) (hr : meth.sig.returnType = (Option.some Jvm.ClassFile.FieldType.boolean)) (hml : c.maxLocals = 1) (hh : zH s) (hg : ∀ w ∈ lw_R, w.before args s = true) (hown : s.vm.findClass "ChanceArenaModel" = some m.cls) (hlocks : meth.locks = false) (hK : va_K D vwCl (zT tA) s) (hA : ∀ q, s.heap.size ≤ q → A q)  : ∀ (H : Heap) (locs : List Loc) (ls : Array Slot), f_MM_isDigit l0 = some out → va_P D vwCl [] H → va_D A [] → va_S A s.heap H locs → lv_has ls 1 [(0, .int l0)] → W p l e { frames := 0, cells := 0, slots := 0, locals := 0 } s m args below meth c H locs 0 0 (MQ below (va_Qi (fun (r9 : Int32) (u9 : Unit) => r9 = out) (zPost D A (fun (u9 : Unit) => [])) A) args s 0 0 A) (F0 m 0 ls []) := by
  intro    H locs ls hF  hP hD hS hl
  replace hF : ((if (l0 : Int32) < 48 then some (0) else if (57 : Int32) < l0 then some (0) else some (1)) : Option (Int32)) = some out := hF
  refine lv_iload_n hx hb d_MM_isDigit_0 rfl (lv_at hl 0 rfl) ?_
  refine lv_bipush (v := 48) hx hb d_MM_isDigit_1 (by decide) ?_
  refine lv_icmp_lt (tgt := 16) hx hb d_MM_isDigit_3 (by decide) (fun c9 => ?_) (fun c9 => ?_)
  · replace hF := ifp c9 hF
    refine lv_iconst (v := 0) hx hb d_MM_isDigit_16 (by decide) ?_
    replace hF := Option.some.inj hF
    subst hF
    exact zZret (post := (fun (r9 : Int32) (u9 : Unit) => r9 = 0)) (W1 := (fun (u9 : Unit) => [])) (v := 0) hx hb hr rfl hlocks hP hD hS () rfl rfl d_MM_isDigit_17
  · replace hF := ifn c9 hF
    refine lv_iload_n hx hb d_MM_isDigit_6 rfl (lv_at hl 0 rfl) ?_
    refine lv_bipush (v := 57) hx hb d_MM_isDigit_7 (by decide) ?_
    refine lv_icmp_gt (tgt := 16) hx hb d_MM_isDigit_9 (by decide) (fun c9 => ?_) (fun c9 => ?_)
    · replace hF := ifp c9 hF
      refine lv_iconst (v := 0) hx hb d_MM_isDigit_16 (by decide) ?_
      replace hF := Option.some.inj hF
      subst hF
      exact zZret (post := (fun (r9 : Int32) (u9 : Unit) => r9 = 0)) (W1 := (fun (u9 : Unit) => [])) (v := 0) hx hb hr rfl hlocks hP hD hS () rfl rfl d_MM_isDigit_17
    · replace hF := ifn c9 hF
      refine lv_iconst (v := 1) hx hb d_MM_isDigit_12 (by decide) ?_
      refine lv_goto (tgt := 17) hx hb d_MM_isDigit_13 (by decide) ?_
      replace hF := Option.some.inj hF
      subst hF
      exact zZret (post := (fun (r9 : Int32) (u9 : Unit) => r9 = 1)) (W1 := (fun (u9 : Unit) => [])) (v := 1) hx hb hr rfl hlocks hP hD hS () rfl rfl d_MM_isDigit_17
set_option maxHeartbeats 4000000 in
set_option maxRecDepth 100000 in
theorem m_MM_isDigit (l : Launch) (D : va_G) (tA : Nat → ClassId) (sz : Nat) (l0 : Int32) (out : Int32) (hF : f_MM_isDigit l0 = some out) : zMi l ({ cls := "ChanceArenaModel", name := "isDigit", desc := "(I)Z" } : Jvm.MethodName) (zW (Jvm.Cond.code ({ cls := "ChanceArenaModel", name := "isDigit", desc := "(I)Z" } : Jvm.MethodName) prog_15_method_8_code (1 : Nat) (Option.some Jvm.ClassFile.FieldType.boolean))) { frames := 0, cells := 0, slots := 0, locals := 0 } [.int l0] D tA [] sz (fun (r9 : Int32) (u9 : Unit) => r9 = out) (fun (u9 : Unit) => []) 0 0 := by
  refine zOpen (l := l) (y := ({ cls := "ChanceArenaModel", name := "isDigit", desc := "(I)Z" } : Jvm.MethodName)) (ws := zW (Jvm.Cond.code ({ cls := "ChanceArenaModel", name := "isDigit", desc := "(I)Z" } : Jvm.MethodName) prog_15_method_8_code (1 : Nat) (Option.some Jvm.ClassFile.FieldType.boolean))) (rm := { frames := 0, cells := 0, slots := 0, locals := 0 }) (av := [.int l0]) (D := D) (tA := tA) (W0 := []) (Wm := []) (sz := sz) (mc := 0) (ms := 0) (fun A => va_Qi (fun (r9 : Int32) (u9 : Unit) => r9 = out) (zPost D A (fun (u9 : Unit) => [])) A) (lv := [(0, .int l0)]) (by decide) rfl (Nat.le_of_ble_eq_true rfl) rfl ?_
  intro p e s m below meth c A ls hx hb hr hml hh hg hown hlocks hnm hK hA hP hD0 hAw hS hl
  have hD := zD hD0 hAw
  exact b_MM_isDigit_0 hx hb hr hml hh hg hown hlocks hK hA    _ _ _ hF  hP hD hS hl
def f_MM_isBlank (l0 : Int32) : Option (Int32) := if (l0 : Int32) = 9 then some (1) else if (l0 : Int32) = 10 then some (1) else if (l0 : Int32) = 13 then some (1) else if ¬ (l0 : Int32) = 32 then some (0) else some (1)
set_option maxHeartbeats 4000000 in
set_option maxRecDepth 100000 in
theorem b_MM_isBlank_0 {p : Program} {l : Launch} {e : Env} {s : State} {m : MethodId} {args : Array Value} {below : List Frame} {meth : Method} {c : Code} {D : va_G} {tA : Nat → ClassId} {A : Nat → Prop} {l0 : Int32} {out : Int32} (hx : p.tables.exec = Jvm.exec) (hb : c.code = prog_15_method_9_code) (hr : meth.sig.returnType = (Option.some Jvm.ClassFile.FieldType.boolean)) (hml : c.maxLocals = 1) (hh : zH s) (hg : ∀ w ∈ lw_R, w.before args s = true) (hown : s.vm.findClass "ChanceArenaModel" = some m.cls) (hlocks : meth.locks = false) (hK : va_K D vwCl (zT tA) s) (hA : ∀ q, s.heap.size ≤ q → A q)  : ∀ (H : Heap) (locs : List Loc) (ls : Array Slot), f_MM_isBlank l0 = some out → va_P D vwCl [] H → va_D A [] → va_S A s.heap H locs → lv_has ls 1 [(0, .int l0)] → W p l e { frames := 0, cells := 0, slots := 0, locals := 0 } s m args below meth c H locs 0 0 (MQ below (va_Qi (fun (r9 : Int32) (u9 : Unit) => r9 = out) (zPost D A (fun (u9 : Unit) => [])) A) args s 0 0 A) (F0 m 0 ls []) := by
  intro    H locs ls hF  hP hD hS hl
  replace hF : ((if (l0 : Int32) = 9 then some (1) else if (l0 : Int32) = 10 then some (1) else if (l0 : Int32) = 13 then some (1) else if ¬ (l0 : Int32) = 32 then some (0) else some (1)) : Option (Int32)) = some out := hF
  refine lv_iload_n hx hb d_MM_isBlank_0 rfl (lv_at hl 0 rfl) ?_
  refine lv_bipush (v := 9) hx hb d_MM_isBlank_1 (by decide) ?_
  refine lv_icmp_eq (tgt := 24) hx hb d_MM_isBlank_3 (by decide) (fun c9 => ?_) (fun c9 => ?_)
  · replace hF := ifp c9 hF
    refine lv_iconst (v := 1) hx hb d_MM_isBlank_24 (by decide) ?_
    refine lv_goto (tgt := 29) hx hb d_MM_isBlank_25 (by decide) ?_
    replace hF := Option.some.inj hF
    subst hF
    exact zZret (post := (fun (r9 : Int32) (u9 : Unit) => r9 = 1)) (W1 := (fun (u9 : Unit) => [])) (v := 1) hx hb hr rfl hlocks hP hD hS () rfl rfl d_MM_isBlank_29
  · replace hF := ifn c9 hF
    refine lv_iload_n hx hb d_MM_isBlank_6 rfl (lv_at hl 0 rfl) ?_
    refine lv_bipush (v := 10) hx hb d_MM_isBlank_7 (by decide) ?_
    refine lv_icmp_eq (tgt := 24) hx hb d_MM_isBlank_9 (by decide) (fun c9 => ?_) (fun c9 => ?_)
    · replace hF := ifp c9 hF
      refine lv_iconst (v := 1) hx hb d_MM_isBlank_24 (by decide) ?_
      refine lv_goto (tgt := 29) hx hb d_MM_isBlank_25 (by decide) ?_
      replace hF := Option.some.inj hF
      subst hF
      exact zZret (post := (fun (r9 : Int32) (u9 : Unit) => r9 = 1)) (W1 := (fun (u9 : Unit) => [])) (v := 1) hx hb hr rfl hlocks hP hD hS () rfl rfl d_MM_isBlank_29
    · replace hF := ifn c9 hF
      refine lv_iload_n hx hb d_MM_isBlank_12 rfl (lv_at hl 0 rfl) ?_
      refine lv_bipush (v := 13) hx hb d_MM_isBlank_13 (by decide) ?_
      refine lv_icmp_eq (tgt := 24) hx hb d_MM_isBlank_15 (by decide) (fun c9 => ?_) (fun c9 => ?_)
      · replace hF := ifp c9 hF
        refine lv_iconst (v := 1) hx hb d_MM_isBlank_24 (by decide) ?_
        refine lv_goto (tgt := 29) hx hb d_MM_isBlank_25 (by decide) ?_
        replace hF := Option.some.inj hF
        subst hF
        exact zZret (post := (fun (r9 : Int32) (u9 : Unit) => r9 = 1)) (W1 := (fun (u9 : Unit) => [])) (v := 1) hx hb hr rfl hlocks hP hD hS () rfl rfl d_MM_isBlank_29
      · replace hF := ifn c9 hF
        refine lv_iload_n hx hb d_MM_isBlank_18 rfl (lv_at hl 0 rfl) ?_
        refine lv_bipush (v := 32) hx hb d_MM_isBlank_19 (by decide) ?_
        refine lv_icmp_ne (tgt := 28) hx hb d_MM_isBlank_21 (by decide) (fun c9 => ?_) (fun c9 => ?_)
        · replace hF := ifp c9 hF
          refine lv_iconst (v := 0) hx hb d_MM_isBlank_28 (by decide) ?_
          replace hF := Option.some.inj hF
          subst hF
          exact zZret (post := (fun (r9 : Int32) (u9 : Unit) => r9 = 0)) (W1 := (fun (u9 : Unit) => [])) (v := 0) hx hb hr rfl hlocks hP hD hS () rfl rfl d_MM_isBlank_29
        · replace hF := ifn (fun h9 => h9 c9) hF
          refine lv_iconst (v := 1) hx hb d_MM_isBlank_24 (by decide) ?_
          refine lv_goto (tgt := 29) hx hb d_MM_isBlank_25 (by decide) ?_
          replace hF := Option.some.inj hF
          subst hF
          exact zZret (post := (fun (r9 : Int32) (u9 : Unit) => r9 = 1)) (W1 := (fun (u9 : Unit) => [])) (v := 1) hx hb hr rfl hlocks hP hD hS () rfl rfl d_MM_isBlank_29
set_option maxHeartbeats 4000000 in
set_option maxRecDepth 100000 in
theorem m_MM_isBlank (l : Launch) (D : va_G) (tA : Nat → ClassId) (sz : Nat) (l0 : Int32) (out : Int32) (hF : f_MM_isBlank l0 = some out) : zMi l ({ cls := "ChanceArenaModel", name := "isBlank", desc := "(I)Z" } : Jvm.MethodName) (zW (Jvm.Cond.code ({ cls := "ChanceArenaModel", name := "isBlank", desc := "(I)Z" } : Jvm.MethodName) prog_15_method_9_code (1 : Nat) (Option.some Jvm.ClassFile.FieldType.boolean))) { frames := 0, cells := 0, slots := 0, locals := 0 } [.int l0] D tA [] sz (fun (r9 : Int32) (u9 : Unit) => r9 = out) (fun (u9 : Unit) => []) 0 0 := by
  refine zOpen (l := l) (y := ({ cls := "ChanceArenaModel", name := "isBlank", desc := "(I)Z" } : Jvm.MethodName)) (ws := zW (Jvm.Cond.code ({ cls := "ChanceArenaModel", name := "isBlank", desc := "(I)Z" } : Jvm.MethodName) prog_15_method_9_code (1 : Nat) (Option.some Jvm.ClassFile.FieldType.boolean))) (rm := { frames := 0, cells := 0, slots := 0, locals := 0 }) (av := [.int l0]) (D := D) (tA := tA) (W0 := []) (Wm := []) (sz := sz) (mc := 0) (ms := 0) (fun A => va_Qi (fun (r9 : Int32) (u9 : Unit) => r9 = out) (zPost D A (fun (u9 : Unit) => [])) A) (lv := [(0, .int l0)]) (by decide) rfl (Nat.le_of_ble_eq_true rfl) rfl ?_
  intro p e s m below meth c A ls hx hb hr hml hh hg hown hlocks hnm hK hA hP hD0 hAw hS hl
  have hD := zD hD0 hAw
  exact b_MM_isBlank_0 hx hb hr hml hh hg hown hlocks hK hA    _ _ _ hF  hP hD hS hl
