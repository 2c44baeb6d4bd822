theorem k2_35 : (Jvm.Cond.fieldLink "ChanceArena" (140 : Nat) "ChanceArena$Program" "vars" "I") ∈ lw_R := zR (zk_2 _ (List.mem_of_getElem? (i := 35) (by decide +kernel))) rfl
theorem k2_47 : (Jvm.Cond.fieldLink "ChanceArena" (143 : Nat) "ChanceArena$Program" "names" "I") ∈ lw_R := zR (zk_2 _ (List.mem_of_getElem? (i := 47) (by decide +kernel))) rfl
theorem k2_62 : (Jvm.Cond.fieldLink "ChanceArena" (146 : Nat) "ChanceArena$Program" "commands" "I") ∈ lw_R := zR (zk_2 _ (List.mem_of_getElem? (i := 62) (by decide +kernel))) rfl
theorem k5_115 : (Jvm.Cond.code ({ cls := "ChanceArena", name := "forget", desc := "()V" } : Jvm.MethodName) prog_1_method_7_code (1 : Nat) (Option.none : Option Jvm.ClassFile.FieldType)) ∈ lw_R := zR (zk_5 _ (List.mem_of_getElem? (i := 115) (by decide +kernel))) rfl
theorem k10_226 : (Jvm.Cond.methodLink "ChanceArenaModel" (159 : Nat) ({ cls := "ChanceArenaModel", name := "letter", desc := "(I)I" } : Jvm.MethodName)) ∈ lw_R := zR (zk_10 _ (List.mem_of_getElem? (i := 226) (by decide +kernel))) rfl
theorem k10_228 : (Jvm.Cond.instanceMethod ({ cls := "ChanceArenaModel", name := "letter", desc := "(I)I" } : Jvm.MethodName)) ∈ lw_R := zR (zk_10 _ (List.mem_of_getElem? (i := 228) (by decide +kernel))) rfl
theorem k10_234 : (Jvm.Cond.methodLink "ChanceArenaModel" (162 : Nat) ({ cls := "ChanceArenaModel", name := "isBlank", desc := "(I)Z" } : Jvm.MethodName)) ∈ lw_R := zR (zk_10 _ (List.mem_of_getElem? (i := 234) (by decide +kernel))) rfl
theorem k10_235 : (Jvm.Cond.static ({ cls := "ChanceArenaModel", name := "isBlank", desc := "(I)Z" } : Jvm.MethodName)) ∈ lw_R := zR (zk_10 _ (List.mem_of_getElem? (i := 235) (by decide +kernel))) rfl
theorem d_CA_forget_0 : decode prog_1_method_7_code 0 = .ok (.aload_n 0, 1) := by decide +kernel
theorem d_CA_forget_1 : decode prog_1_method_7_code 1 = .ok (.getfield 70, 3) := by decide +kernel
theorem d_CA_forget_4 : decode prog_1_method_7_code 4 = .ok (.iconst 0, 1) := by decide +kernel
theorem d_CA_forget_5 : decode prog_1_method_7_code 5 = .ok (.putfield 137, 3) := by decide +kernel
theorem d_CA_forget_8 : decode prog_1_method_7_code 8 = .ok (.aload_n 0, 1) := by decide +kernel
theorem d_CA_forget_9 : decode prog_1_method_7_code 9 = .ok (.getfield 74, 3) := by decide +kernel
theorem d_CA_forget_12 : decode prog_1_method_7_code 12 = .ok (.iconst 0, 1) := by decide +kernel
theorem d_CA_forget_13 : decode prog_1_method_7_code 13 = .ok (.putfield 137, 3) := by decide +kernel
theorem d_CA_forget_16 : decode prog_1_method_7_code 16 = .ok (.aload_n 0, 1) := by decide +kernel
theorem d_CA_forget_17 : decode prog_1_method_7_code 17 = .ok (.getfield 80, 3) := by decide +kernel
theorem d_CA_forget_20 : decode prog_1_method_7_code 20 = .ok (.iconst 0, 1) := by decide +kernel
theorem d_CA_forget_21 : decode prog_1_method_7_code 21 = .ok (.putfield 137, 3) := by decide +kernel
theorem d_CA_forget_24 : decode prog_1_method_7_code 24 = .ok (.return_, 1) := by decide +kernel
theorem d_CA_items_9 : decode prog_1_method_9_code 9 = .ok (.iload_n 1, 1) := by decide +kernel
theorem d_CA_items_10 : decode prog_1_method_9_code 10 = .ok (.tableswitch 50 0 2 #[26, 34, 42], 26) := by decide +kernel
theorem d_CA_items_36 : decode prog_1_method_9_code 36 = .ok (.aload_n 0, 1) := by decide +kernel
theorem d_CA_items_37 : decode prog_1_method_9_code 37 = .ok (.getfield 34, 3) := by decide +kernel
theorem d_CA_items_40 : decode prog_1_method_9_code 40 = .ok (.getfield 140, 3) := by decide +kernel
theorem d_CA_items_43 : decode prog_1_method_9_code 43 = .ok (.ireturn, 1) := by decide +kernel
theorem d_CA_items_44 : decode prog_1_method_9_code 44 = .ok (.aload_n 0, 1) := by decide +kernel
theorem d_CA_items_45 : decode prog_1_method_9_code 45 = .ok (.getfield 34, 3) := by decide +kernel
theorem d_CA_items_48 : decode prog_1_method_9_code 48 = .ok (.getfield 143, 3) := by decide +kernel
theorem d_CA_items_51 : decode prog_1_method_9_code 51 = .ok (.ireturn, 1) := by decide +kernel
theorem d_CA_items_52 : decode prog_1_method_9_code 52 = .ok (.aload_n 0, 1) := by decide +kernel
theorem d_CA_items_53 : decode prog_1_method_9_code 53 = .ok (.getfield 34, 3) := by decide +kernel
theorem d_CA_items_56 : decode prog_1_method_9_code 56 = .ok (.getfield 146, 3) := by decide +kernel
theorem d_CA_items_59 : decode prog_1_method_9_code 59 = .ok (.ireturn, 1) := by decide +kernel
theorem d_CA_items_60 : decode prog_1_method_9_code 60 = .ok (.iconst (-1), 1) := by decide +kernel
theorem d_CA_items_61 : decode prog_1_method_9_code 61 = .ok (.ireturn, 1) := by decide +kernel
theorem d_MM_end_27 : decode prog_15_method_5_code 27 = .ok (.iconst 0, 1) := by decide +kernel
theorem d_MM_end_40 : decode prog_15_method_5_code 40 = .ok (.aload_n 0, 1) := by decide +kernel
theorem d_MM_end_41 : decode prog_15_method_5_code 41 = .ok (.getfield 10, 3) := by decide +kernel
theorem d_MM_end_44 : decode prog_15_method_5_code 44 = .ok (.aload_n 0, 1) := by decide +kernel
theorem d_MM_end_45 : decode prog_15_method_5_code 45 = .ok (.getfield 10, 3) := by decide +kernel
theorem d_MM_end_48 : decode prog_15_method_5_code 48 = .ok (.getfield 145, 3) := by decide +kernel
theorem d_MM_end_51 : decode prog_15_method_5_code 51 = .ok (.bipush 20, 2) := by decide +kernel
theorem d_MM_end_53 : decode prog_15_method_5_code 53 = .ok (.isub, 1) := by decide +kernel
theorem d_MM_end_54 : decode prog_15_method_5_code 54 = .ok (.iload_n 1, 1) := by decide +kernel
theorem d_MM_end_55 : decode prog_15_method_5_code 55 = .ok (.iadd, 1) := by decide +kernel
theorem d_MM_end_56 : decode prog_15_method_5_code 56 = .ok (.putfield 145, 3) := by decide +kernel
theorem d_MM_end_59 : decode prog_15_method_5_code 59 = .ok (.aload_n 0, 1) := by decide +kernel
theorem d_MM_end_60 : decode prog_15_method_5_code 60 = .ok (.getfield 10, 3) := by decide +kernel
theorem d_MM_end_63 : decode prog_15_method_5_code 63 = .ok (.getfield 145, 3) := by decide +kernel
theorem d_MM_end_66 : decode prog_15_method_5_code 66 = .ok (.ireturn, 1) := by decide +kernel
theorem d_MM_skip_13 : decode prog_15_method_10_code 13 = .ok (.aload_n 0, 1) := by decide +kernel
theorem d_MM_skip_14 : decode prog_15_method_10_code 14 = .ok (.iload_n 2, 1) := by decide +kernel
theorem d_MM_skip_15 : decode prog_15_method_10_code 15 = .ok (.invokevirtual 159, 3) := by decide +kernel
theorem ks_MM_letter : Cond.selects "ChanceArenaModel" ({ cls := "ChanceArenaModel", name := "letter", desc := "(I)I" } : Jvm.MethodName) ({ cls := "ChanceArenaModel", name := "letter", desc := "(I)I" } : Jvm.MethodName) ∈ lw_R := zR (List.mem_append_left _ (List.mem_of_getElem? (i := 77) (by decide +kernel))) rfl
theorem d_MM_skip_18 : decode prog_15_method_10_code 18 = .ok (.invokestatic 162, 3) := by decide +kernel
theorem d_MM_skip_21 : decode prog_15_method_10_code 21 = .ok (.ifCond .ne 13, 3) := by decide +kernel
theorem d_MM_skip_34 : decode prog_15_method_10_code 34 = .ok (.aload_n 0, 1) := by decide +kernel
theorem d_MM_skip_35 : decode prog_15_method_10_code 35 = .ok (.iload_n 2, 1) := by decide +kernel
theorem d_MM_skip_36 : decode prog_15_method_10_code 36 = .ok (.invokevirtual 159, 3) := by decide +kernel
theorem d_MM_skip_39 : decode prog_15_method_10_code 39 = .ok (.bipush 35, 2) := by decide +kernel
theorem d_MM_skip_41 : decode prog_15_method_10_code 41 = .ok (.if_icmp .ne 30, 3) := by decide +kernel
theorem d_MM_skip_71 : decode prog_15_method_10_code 71 = .ok (.iinc 2 1, 3) := by decide +kernel
theorem d_MM_skip_74 : decode prog_15_method_10_code 74 = .ok (.goto (-72), 3) := by decide +kernel
theorem d_MM_skip_24 : decode prog_15_method_10_code 24 = .ok (.aload_n 0, 1) := by decide +kernel
theorem d_MM_skip_25 : decode prog_15_method_10_code 25 = .ok (.iload_n 2, 1) := by decide +kernel
theorem d_MM_skip_26 : decode prog_15_method_10_code 26 = .ok (.invokevirtual 159, 3) := by decide +kernel
theorem d_MM_skip_29 : decode prog_15_method_10_code 29 = .ok (.bipush 35, 2) := by decide +kernel
theorem d_MM_skip_31 : decode prog_15_method_10_code 31 = .ok (.if_icmp .ne 46, 3) := by decide +kernel
theorem d_MM_skip_44 : decode prog_15_method_10_code 44 = .ok (.iload_n 2, 1) := by decide +kernel
theorem d_MM_skip_45 : decode prog_15_method_10_code 45 = .ok (.aload_n 0, 1) := by decide +kernel
theorem d_MM_skip_46 : decode prog_15_method_10_code 46 = .ok (.getfield 16, 3) := by decide +kernel
theorem d_MM_skip_49 : decode prog_15_method_10_code 49 = .ok (.getfield 145, 3) := by decide +kernel
theorem d_MM_skip_52 : decode prog_15_method_10_code 52 = .ok (.if_icmp .ge (-50), 3) := by decide +kernel
theorem d_MM_skip_55 : decode prog_15_method_10_code 55 = .ok (.aload_n 0, 1) := by decide +kernel
theorem d_MM_skip_56 : decode prog_15_method_10_code 56 = .ok (.iload_n 2, 1) := by decide +kernel
theorem d_MM_skip_57 : decode prog_15_method_10_code 57 = .ok (.invokevirtual 159, 3) := by decide +kernel
theorem d_MM_skip_60 : decode prog_15_method_10_code 60 = .ok (.bipush 10, 2) := by decide +kernel
theorem d_MM_skip_62 : decode prog_15_method_10_code 62 = .ok (.if_icmp .eq (-60), 3) := by decide +kernel
theorem d_MM_skip_65 : decode prog_15_method_10_code 65 = .ok (.iinc 2 1, 3) := by decide +kernel
theorem d_MM_skip_68 : decode prog_15_method_10_code 68 = .ok (.goto (-24), 3) := by decide +kernel
def f_CA_putFour (h0_tape_n : Nat) (l1 : Int32) : Nat → Nat → Int32 → (Nat → Int32) → Int32 → Option (Int32 × (Nat → Int32))
  | 0, _, _, _, _ => none
  | n + 1, 0, h0_tapeLength, h0_tape_c, l2 => chk True (f_CA_putFour h0_tape_n l1 n 1 h0_tapeLength h0_tape_c 24)
  | n + 1, 1, h0_tapeLength, h0_tape_c, l2 => if (l2 : Int32) < 0 then some (h0_tapeLength, h0_tape_c) else chk (0 ≤ (h0_tapeLength : Int32).toInt ∧ (h0_tapeLength : Int32).toInt < h0_tape_n) (f_CA_putFour h0_tape_n l1 n 1 (h0_tapeLength + 1) (upd h0_tape_c (h0_tapeLength : Int32).toNatClampNeg (vp_nar .char ((((((l1 : Int32).toUInt32 >>> ((l2 : Int32).toUInt32 &&& Int32.toUInt32 31)).toInt32 &&& 255) : Int32).toUInt32 % 65536).toInt32))) (l2 + Int32.ofInt (-8)))
  | _ + 1, _ + 2, _, _, _ => none
theorem e_CA_putFour_0 (h0_tape_n : Nat) (l1 : Int32) (n : Nat) (h0_tapeLength : Int32) (h0_tape_c : Nat → Int32) (l2 : Int32) : f_CA_putFour h0_tape_n l1 (n + 1) 0 h0_tapeLength h0_tape_c l2 = chk True (f_CA_putFour h0_tape_n l1 n 1 h0_tapeLength h0_tape_c 24) := by rw [f_CA_putFour]
theorem e_CA_putFour_1 (h0_tape_n : Nat) (l1 : Int32) (n : Nat) (h0_tapeLength : Int32) (h0_tape_c : Nat → Int32) (l2 : Int32) : f_CA_putFour h0_tape_n l1 (n + 1) 1 h0_tapeLength h0_tape_c l2 = if (l2 : Int32) < 0 then some (h0_tapeLength, h0_tape_c) else chk (0 ≤ (h0_tapeLength : Int32).toInt ∧ (h0_tapeLength : Int32).toInt < h0_tape_n) (f_CA_putFour h0_tape_n l1 n 1 (h0_tapeLength + 1) (upd h0_tape_c (h0_tapeLength : Int32).toNatClampNeg (vp_nar .char ((((((l1 : Int32).toUInt32 >>> ((l2 : Int32).toUInt32 &&& Int32.toUInt32 31)).toInt32 &&& 255) : Int32).toUInt32 % 65536).toInt32))) (l2 + Int32.ofInt (-8))) := by rw [f_CA_putFour]
theorem z_CA_putFour (h0_tape_n : Nat) (l1 : Int32) (h : Nat) (h0_tapeLength : Int32) (h0_tape_c : Nat → Int32) (l2 : Int32) : f_CA_putFour h0_tape_n l1 0 h h0_tapeLength h0_tape_c l2 = none := by rw [f_CA_putFour]
set_option maxHeartbeats 4000000 in
set_option maxRecDepth 100000 in
theorem b_CA_putFour_0 {p : Program} {l : Launch} {e : Env} {s : State} {m : MethodId} {args : Array Value} {below : List Frame} {meth : Method} {c : Code} {D : va_G} {tA : Nat → ClassId} {A : Nat → Prop} {h0 h0_tape : Nat} {f0_h0 : List Value} {h0_tape_n : Nat} {l1 : Int32} {out : Int32 × (Nat → Int32)} (hx : p.tables.exec = Jvm.exec) (hb : c.code = prog_1_method_4_code) (hr : meth.sig.returnType = (Option.none : Option Jvm.ClassFile.FieldType)) (hml : c.maxLocals = 3) (hh : zH s) (hg : ∀ w ∈ lw_R, w.before args s = true) (hown : s.vm.findClass "ChanceArena" = some m.cls) (hlocks : meth.locks = false) (hK : va_K D vwCl (zT tA) s) (hA : ∀ q, s.heap.size ≤ q → A q) {n : Nat} (ih1 : ∀ (h0_tapeLength : Int32) (h0_tape_c : Nat → Int32) (l2 : Int32) (f_h0 : List Value) (H : Heap) (locs : List Loc) (ls : Array Slot), f_CA_putFour h0_tape_n l1 n 1 h0_tapeLength h0_tape_c l2 = some out → f_h0[0]? = some (.ref h0_tape) → f_h0[1]? = some (.int h0_tapeLength) → Fr [1] f0_h0 f_h0 → va_P D vwCl [(h0, .inr (0, f_h0)), (h0_tape, .inl (tA 2, h0_tape_n, .inl h0_tape_c))] H → va_D A [(h0, .inr (0, f_h0)), (h0_tape, .inl (tA 2, h0_tape_n, .inl h0_tape_c))] → va_S A s.heap H locs → lv_has ls 3 [(0, .ref h0), (1, .int l1), (2, .int l2)] → W p l e { frames := 0, cells := 0, slots := 0, locals := 0 } s m args below meth c H locs 0 0 (MQ below (va_Qv (fun (u9 : List Value) => Fr [1] f0_h0 u9 ∧ u9[1]? = some (.int out.1)) (zPost D A (fun (u9 : List Value) => [(h0, .inr (0, u9)), (h0_tape, .inl (tA 2, h0_tape_n, .inl out.2))])) A) args s 0 0 A) (F0 m 3 ls [])) : ∀ (h0_tapeLength : Int32) (h0_tape_c : Nat → Int32) (l2 : Int32) (f_h0 : List Value) (H : Heap) (locs : List Loc) (ls : Array Slot), f_CA_putFour h0_tape_n l1 (n + 1) 0 h0_tapeLength h0_tape_c l2 = some out → f_h0[0]? = some (.ref h0_tape) → f_h0[1]? = some (.int h0_tapeLength) → Fr [1] f0_h0 f_h0 → va_P D vwCl [(h0, .inr (0, f_h0)), (h0_tape, .inl (tA 2, h0_tape_n, .inl h0_tape_c))] H → va_D A [(h0, .inr (0, f_h0)), (h0_tape, .inl (tA 2, h0_tape_n, .inl h0_tape_c))] → va_S A s.heap H locs → lv_has ls 3 [(0, .ref h0), (1, .int l1)] → W p l e { frames := 0, cells := 0, slots := 0, locals := 0 } s m args below meth c H locs 0 0 (MQ below (va_Qv (fun (u9 : List Value) => Fr [1] f0_h0 u9 ∧ u9[1]? = some (.int out.1)) (zPost D A (fun (u9 : List Value) => [(h0, .inr (0, u9)), (h0_tape, .inl (tA 2, h0_tape_n, .inl out.2))])) A) args s 0 0 A) (F0 m 0 ls []) := by
  intro h0_tapeLength h0_tape_c l2  f_h0 H locs ls hF q_h0_tape q_h0_tapeLength r_h0 hP hD hS hl
  rw [e_CA_putFour_0] at hF
  obtain ⟨_, hF⟩ := chk_some hF
  refine lv_bipush (v := 24) hx hb d_CA_putFour_0 (by decide) ?_
  refine lv_istore_n (lv' := [(2, .int 24), (0, .ref h0), (1, .int l1)]) hx hb d_CA_putFour_2 rfl hl (by decide) rfl (fun ls hl => ?_)
  exact ih1 h0_tapeLength h0_tape_c 24  f_h0 _ _ _ hF q_h0_tape q_h0_tapeLength r_h0 hP hD hS (lv_sub hl [1, 2, 0] rfl)
set_option maxHeartbeats 4000000 in
set_option maxRecDepth 100000 in
theorem b_CA_putFour_1 {p : Program} {l : Launch} {e : Env} {s : State} {m : MethodId} {args : Array Value} {below : List Frame} {meth : Method} {c : Code} {D : va_G} {tA : Nat → ClassId} {A : Nat → Prop} {h0 h0_tape : Nat} {f0_h0 : List Value} {h0_tape_n : Nat} {l1 : Int32} {out : Int32 × (Nat → Int32)} (hx : p.tables.exec = Jvm.exec) (hb : c.code = prog_1_method_4_code) (hr : meth.sig.returnType = (Option.none : Option Jvm.ClassFile.FieldType)) (hml : c.maxLocals = 3) (hh : zH s) (hg : ∀ w ∈ lw_R, w.before args s = true) (hown : s.vm.findClass "ChanceArena" = some m.cls) (hlocks : meth.locks = false) (hK : va_K D vwCl (zT tA) s) (hA : ∀ q, s.heap.size ≤ q → A q) {n : Nat} (ih1 : ∀ (h0_tapeLength : Int32) (h0_tape_c : Nat → Int32) (l2 : Int32) (f_h0 : List Value) (H : Heap) (locs : List Loc) (ls : Array Slot), f_CA_putFour h0_tape_n l1 n 1 h0_tapeLength h0_tape_c l2 = some out → f_h0[0]? = some (.ref h0_tape) → f_h0[1]? = some (.int h0_tapeLength) → Fr [1] f0_h0 f_h0 → va_P D vwCl [(h0, .inr (0, f_h0)), (h0_tape, .inl (tA 2, h0_tape_n, .inl h0_tape_c))] H → va_D A [(h0, .inr (0, f_h0)), (h0_tape, .inl (tA 2, h0_tape_n, .inl h0_tape_c))] → va_S A s.heap H locs → lv_has ls 3 [(0, .ref h0), (1, .int l1), (2, .int l2)] → W p l e { frames := 0, cells := 0, slots := 0, locals := 0 } s m args below meth c H locs 0 0 (MQ below (va_Qv (fun (u9 : List Value) => Fr [1] f0_h0 u9 ∧ u9[1]? = some (.int out.1)) (zPost D A (fun (u9 : List Value) => [(h0, .inr (0, u9)), (h0_tape, .inl (tA 2, h0_tape_n, .inl out.2))])) A) args s 0 0 A) (F0 m 3 ls [])) : ∀ (h0_tapeLength : Int32) (h0_tape_c : Nat → Int32) (l2 : Int32) (f_h0 : List Value) (H : Heap) (locs : List Loc) (ls : Array Slot), f_CA_putFour h0_tape_n l1 (n + 1) 1 h0_tapeLength h0_tape_c l2 = some out → f_h0[0]? = some (.ref h0_tape) → f_h0[1]? = some (.int h0_tapeLength) → Fr [1] f0_h0 f_h0 → va_P D vwCl [(h0, .inr (0, f_h0)), (h0_tape, .inl (tA 2, h0_tape_n, .inl h0_tape_c))] H → va_D A [(h0, .inr (0, f_h0)), (h0_tape, .inl (tA 2, h0_tape_n, .inl h0_tape_c))] → va_S A s.heap H locs → lv_has ls 3 [(0, .ref h0), (1, .int l1), (2, .int l2)] → W p l e { frames := 0, cells := 0, slots := 0, locals := 0 } s m args below meth c H locs 0 0 (MQ below (va_Qv (fun (u9 : List Value) => Fr [1] f0_h0 u9 ∧ u9[1]? = some (.int out.1)) (zPost D A (fun (u9 : List Value) => [(h0, .inr (0, u9)), (h0_tape, .inl (tA 2, h0_tape_n, .inl out.2))])) A) args s 0 0 A) (F0 m 3 ls []) := by
  intro h0_tapeLength h0_tape_c l2  f_h0 H locs ls hF q_h0_tape q_h0_tapeLength r_h0 hP hD hS hl
  rw [e_CA_putFour_1] at hF
  refine lv_iload_n hx hb d_CA_putFour_3 rfl (lv_at hl 2 rfl) ?_
  refine lv_if_lt (tgt := 37) hx hb d_CA_putFour_4 (by decide) (fun c9 => ?_) (fun c9 => ?_)
  · replace hF := ifp c9 hF
    replace hF := Option.some.inj hF
    subst hF
    exact zVret (post := (fun (u9 : List Value) => Fr [1] f0_h0 u9 ∧ u9[1]? = some (.int ((h0_tapeLength, h0_tape_c).1)))) (W1 := (fun (u9 : List Value) => [(h0, .inr (0, u9)), (h0_tape, .inl (tA 2, h0_tape_n, .inl ((h0_tapeLength, h0_tape_c).2)))])) hx hb hr hlocks hP hD hS (f_h0) ⟨r_h0, q_h0_tapeLength⟩ rfl d_CA_putFour_37
  · replace hF := ifn c9 hF
    refine lv_aload_n hx hb d_CA_putFour_7 rfl (lv_at hl 0 rfl) ?_
    refine va_get (D := D) (ci := 0) (v := .ref h0_tape) (C := R_CA) (T := T_CA) (N := 19) hx hb hg i_CA hown hK hP 0 rfl rfl 0 (by decide) (hg _ k3_175) (fun _ h9 => h9) q_h0_tape d_CA_putFour_8 ?_
    refine lv_aload_n hx hb d_CA_putFour_11 rfl (lv_at hl 0 rfl) ?_
    refine lv_dup hx hb d_CA_putFour_12 rfl ?_
    refine va_get (D := D) (ci := 0) (v := .int h0_tapeLength) (C := R_CA) (T := T_CA) (N := 19) hx hb hg i_CA hown hK hP 0 rfl rfl 1 (by decide) (hg _ k3_176) (fun _ h9 => h9) q_h0_tapeLength d_CA_putFour_13 ?_
    refine lv_dup_x1 hx hb d_CA_putFour_16 rfl rfl ?_
    refine lv_iconst (v := 1) hx hb d_CA_putFour_17 (by decide) ?_
    refine lv_iadd hx hb d_CA_putFour_18 ?_
    refine va_put (D := D) (ci := 0) (v := .int (h0_tapeLength + 1)) (ty := .int) (C := R_CA) (T := T_CA) (N := 19) hx hb hg i_CA t_CA o_CA n_CA hown hK hP hD hS 0 rfl rfl 1 (by decide) (hg _ k3_176) (fun _ h9 => h9) rfl (by decide +kernel) rfl rfl (zLen q_h0_tapeLength) d_CA_putFour_19 (fun H1 locs1 hP1 hD1 hS1 => ?_)
    clear hP hD hS
    replace hP1 : va_P D vwCl [(h0, .inr (0, f_h0.set 1 (.int (h0_tapeLength + 1)))), (h0_tape, .inl (tA 2, h0_tape_n, .inl h0_tape_c))] _ := hP1
    replace hD1 : va_D A [(h0, .inr (0, f_h0.set 1 (.int (h0_tapeLength + 1)))), (h0_tape, .inl (tA 2, h0_tape_n, .inl h0_tape_c))] := hD1
    refine lv_iload_n hx hb d_CA_putFour_22 rfl (lv_at hl 1 rfl) ?_
    refine lv_iload_n hx hb d_CA_putFour_23 rfl (lv_at hl 2 rfl) ?_
    refine lv_iushr (v := ((l1 : Int32).toUInt32 >>> ((l2 : Int32).toUInt32 &&& Int32.toUInt32 31)).toInt32) hx hb d_CA_putFour_24 rfl ?_
    refine lv_sipush (v := 255) hx hb d_CA_putFour_25 (by decide) ?_
    refine lv_iand hx hb d_CA_putFour_28 ?_
    refine lv_i2c (v := (((((l1 : Int32).toUInt32 >>> ((l2 : Int32).toUInt32 &&& Int32.toUInt32 31)).toInt32 &&& 255) : Int32).toUInt32 % 65536).toInt32) hx hb d_CA_putFour_29 rfl ?_
    obtain ⟨h9, hF⟩ := chk_some hF
    refine va_cast hx hb hK hP1 hD1 hS1 1 2 rfl rfl (vp_in_iff.mpr h9) d_CA_putFour_30 (fun H2 locs2 hP2 hD2 hS2 => ?_)
    clear hP1 hD1 hS1
    replace hP2 : va_P D vwCl [(h0, .inr (0, f_h0.set 1 (.int (h0_tapeLength + 1)))), (h0_tape, .inl (tA 2, h0_tape_n, .inl (upd h0_tape_c (h0_tapeLength : Int32).toNatClampNeg (vp_nar .char ((((((l1 : Int32).toUInt32 >>> ((l2 : Int32).toUInt32 &&& Int32.toUInt32 31)).toInt32 &&& 255) : Int32).toUInt32 % 65536).toInt32)))))] _ := hP2
    replace hD2 : va_D A [(h0, .inr (0, f_h0.set 1 (.int (h0_tapeLength + 1)))), (h0_tape, .inl (tA 2, h0_tape_n, .inl (upd h0_tape_c (h0_tapeLength : Int32).toNatClampNeg (vp_nar .char ((((((l1 : Int32).toUInt32 >>> ((l2 : Int32).toUInt32 &&& Int32.toUInt32 31)).toInt32 &&& 255) : Int32).toUInt32 % 65536).toInt32)))))] := hD2
    refine lv_iinc (v := (l2 + Int32.ofInt (-8))) (lv' := [(2, .int (l2 + Int32.ofInt (-8))), (0, .ref h0), (1, .int l1)]) hx hb d_CA_putFour_31 hl (k := 2) rfl rfl (by decide) rfl (fun ls hl => ?_)
    refine lv_goto (tgt := 3) hx hb d_CA_putFour_34 (by decide) ?_
    exact ih1 (h0_tapeLength + 1) (upd h0_tape_c (h0_tapeLength : Int32).toNatClampNeg (vp_nar .char ((((((l1 : Int32).toUInt32 >>> ((l2 : Int32).toUInt32 &&& Int32.toUInt32 31)).toInt32 &&& 255) : Int32).toUInt32 % 65536).toInt32))) (l2 + Int32.ofInt (-8))  (f_h0.set 1 (.int (h0_tapeLength + 1))) _ _ _ hF (zSetN (by decide) q_h0_tape) (zSetS q_h0_tapeLength) (Fr.set r_h0 (by decide)) hP2 hD2 hS2 (lv_sub hl [1, 2, 0] rfl)
set_option maxHeartbeats 4000000 in
set_option maxRecDepth 100000 in
theorem a_CA_putFour {p : Program} {l : Launch} {e : Env} {s : State} {m : MethodId} {args : Array Value} {below : List Frame} {meth : Method} {c : Code} {D : va_G} {tA : Nat → ClassId} {A : Nat → Prop} {h0 h0_tape : Nat} {f0_h0 : List Value} {h0_tape_n : Nat} {l1 : Int32} {out : Int32 × (Nat → Int32)} (hx : p.tables.exec = Jvm.exec) (hb : c.code = prog_1_method_4_code) (hr : meth.sig.returnType = (Option.none : Option Jvm.ClassFile.FieldType)) (hml : c.maxLocals = 3) (hh : zH s) (hg : ∀ w ∈ lw_R, w.before args s = true) (hown : s.vm.findClass "ChanceArena" = some m.cls) (hlocks : meth.locks = false) (hK : va_K D vwCl (zT tA) s) (hA : ∀ q, s.heap.size ≤ q → A q) : ∀ n : Nat, (∀ (h0_tapeLength : Int32) (h0_tape_c : Nat → Int32) (l2 : Int32) (f_h0 : List Value) (H : Heap) (locs : List Loc) (ls : Array Slot), f_CA_putFour h0_tape_n l1 n 0 h0_tapeLength h0_tape_c l2 = some out → f_h0[0]? = some (.ref h0_tape) → f_h0[1]? = some (.int h0_tapeLength) → Fr [1] f0_h0 f_h0 → va_P D vwCl [(h0, .inr (0, f_h0)), (h0_tape, .inl (tA 2, h0_tape_n, .inl h0_tape_c))] H → va_D A [(h0, .inr (0, f_h0)), (h0_tape, .inl (tA 2, h0_tape_n, .inl h0_tape_c))] → va_S A s.heap H locs → lv_has ls 3 [(0, .ref h0), (1, .int l1)] → W p l e { frames := 0, cells := 0, slots := 0, locals := 0 } s m args below meth c H locs 0 0 (MQ below (va_Qv (fun (u9 : List Value) => Fr [1] f0_h0 u9 ∧ u9[1]? = some (.int out.1)) (zPost D A (fun (u9 : List Value) => [(h0, .inr (0, u9)), (h0_tape, .inl (tA 2, h0_tape_n, .inl out.2))])) A) args s 0 0 A) (F0 m 0 ls [])) ∧ (∀ (h0_tapeLength : Int32) (h0_tape_c : Nat → Int32) (l2 : Int32) (f_h0 : List Value) (H : Heap) (locs : List Loc) (ls : Array Slot), f_CA_putFour h0_tape_n l1 n 1 h0_tapeLength h0_tape_c l2 = some out → f_h0[0]? = some (.ref h0_tape) → f_h0[1]? = some (.int h0_tapeLength) → Fr [1] f0_h0 f_h0 → va_P D vwCl [(h0, .inr (0, f_h0)), (h0_tape, .inl (tA 2, h0_tape_n, .inl h0_tape_c))] H → va_D A [(h0, .inr (0, f_h0)), (h0_tape, .inl (tA 2, h0_tape_n, .inl h0_tape_c))] → va_S A s.heap H locs → lv_has ls 3 [(0, .ref h0), (1, .int l1), (2, .int l2)] → W p l e { frames := 0, cells := 0, slots := 0, locals := 0 } s m args below meth c H locs 0 0 (MQ below (va_Qv (fun (u9 : List Value) => Fr [1] f0_h0 u9 ∧ u9[1]? = some (.int out.1)) (zPost D A (fun (u9 : List Value) => [(h0, .inr (0, u9)), (h0_tape, .inl (tA 2, h0_tape_n, .inl out.2))])) A) args s 0 0 A) (F0 m 3 ls [])) := by
  intro n
  induction n with
  | zero => exact ⟨(fun _ _ _ _ _ _ _ hF => by rw [z_CA_putFour] at hF; cases hF), (fun _ _ _ _ _ _ _ hF => by rw [z_CA_putFour] at hF; cases hF)⟩
  | succ n ih =>
    obtain ⟨i0, i1⟩ := ih
    exact ⟨b_CA_putFour_0 hx hb hr hml hh hg hown hlocks hK hA i1, b_CA_putFour_1 hx hb hr hml hh hg hown hlocks hK hA i1⟩
set_option maxHeartbeats 4000000 in
set_option maxRecDepth 100000 in
theorem m_CA_putFour (l : Launch) (D : va_G) (tA : Nat → ClassId) (sz : Nat) (h0 h0_tape : Nat) (f0_h0 : List Value) (h0_tape_n : Nat) (l1 : Int32) (h0_tapeLength : Int32) (h0_tape_c : Nat → Int32) (q_h0_tape : f0_h0[0]? = some (.ref h0_tape)) (q_h0_tapeLength : f0_h0[1]? = some (.int h0_tapeLength)) (n : Nat) (out : Int32 × (Nat → Int32)) (hF : f_CA_putFour h0_tape_n l1 n 0 h0_tapeLength h0_tape_c 0 = some out) : zMv l ({ cls := "ChanceArena", name := "putFour", desc := "(I)V" } : Jvm.MethodName) (zW (Jvm.Cond.code ({ cls := "ChanceArena", name := "putFour", desc := "(I)V" } : Jvm.MethodName) prog_1_method_4_code (3 : Nat) (Option.none : Option Jvm.ClassFile.FieldType))) { frames := 0, cells := 0, slots := 0, locals := 0 } [.ref h0, .int l1] D tA [(h0, .inr (0, f0_h0)), (h0_tape, .inl (tA 2, h0_tape_n, .inl h0_tape_c))] sz (fun (u9 : List Value) => Fr [1] f0_h0 u9 ∧ u9[1]? = some (.int out.1)) (fun (u9 : List Value) => [(h0, .inr (0, u9)), (h0_tape, .inl (tA 2, h0_tape_n, .inl out.2))]) 0 0 := by
  refine zOpen (l := l) (y := ({ cls := "ChanceArena", name := "putFour", desc := "(I)V" } : Jvm.MethodName)) (ws := zW (Jvm.Cond.code ({ cls := "ChanceArena", name := "putFour", desc := "(I)V" } : Jvm.MethodName) prog_1_method_4_code (3 : Nat) (Option.none : Option Jvm.ClassFile.FieldType))) (rm := { frames := 0, cells := 0, slots := 0, locals := 0 }) (av := [.ref h0, .int l1]) (D := D) (tA := tA) (W0 := [(h0, .inr (0, f0_h0)), (h0_tape, .inl (tA 2, h0_tape_n, .inl h0_tape_c))]) (Wm := [(h0, .inr (0, f0_h0)), (h0_tape, .inl (tA 2, h0_tape_n, .inl h0_tape_c))]) (sz := sz) (mc := 0) (ms := 0) (fun A => va_Qv (fun (u9 : List Value) => Fr [1] f0_h0 u9 ∧ u9[1]? = some (.int out.1)) (zPost D A (fun (u9 : List Value) => [(h0, .inr (0, u9)), (h0_tape, .inl (tA 2, h0_tape_n, .inl out.2))])) A) (lv := [(0, .ref h0), (1, .int l1)]) (by decide) rfl (Nat.le_of_ble_eq_true rfl) rfl ?_
  intro p e s m below meth c A ls hx hb hr hml hh hg hown hlocks hnm hK hA hP hD0 hAw hS hl
  have hD := zD hD0 hAw
  exact (a_CA_putFour hx hb hr hml hh hg hown hlocks hK hA n).1 h0_tapeLength h0_tape_c 0  f0_h0 _ _ _ hF q_h0_tape q_h0_tapeLength Fr.rfl hP hD hS hl
def f_CA_forget (h0_values_known : Int32) (h0_withins_known : Int32) (h0_judged_known : Int32) : Option (Int32 × Int32 × Int32) := some (0, 0, 0)
set_option maxHeartbeats 4000000 in
set_option maxRecDepth 100000 in
theorem b_CA_forget_0 {p : Program} {l : Launch} {e : Env} {s : State} {m : MethodId} {args : Array Value} {below : List Frame} {meth : Method} {c : Code} {D : va_G} {tA : Nat → ClassId} {A : Nat → Prop} {h0 h0_values h0_withins h0_judged : Nat} {f0_h0 f0_h0_values f0_h0_withins f0_h0_judged : List Value} {h0_values_known : Int32} {h0_withins_known : Int32} {h0_judged_known : Int32} {out : Int32 × Int32 × Int32} (hx : p.tables.exec = Jvm.exec) (hb : c.code = prog_1_method_7_code) (hr : meth.sig.returnType = (Option.none : Option Jvm.ClassFile.FieldType)) (hml : c.maxLocals = 1) (hh : zH s) (hg : ∀ w ∈ lw_R, w.before args s = true) (hown : s.vm.findClass "ChanceArena" = some m.cls) (hlocks : meth.locks = false) (hK : va_K D vwCl (zT tA) s) (hA : ∀ q, s.heap.size ≤ q → A q)  : ∀ (f_h0_values : List Value) (f_h0_withins : List Value) (f_h0_judged : List Value) (H : Heap) (locs : List Loc) (ls : Array Slot), f_CA_forget h0_values_known h0_withins_known h0_judged_known = some out → f0_h0[11]? = some (.ref h0_values) → f0_h0[12]? = some (.ref h0_withins) → f0_h0[14]? = some (.ref h0_judged) → f_h0_values[1]? = some (.int h0_values_known) → Fr [1] f0_h0_values f_h0_values → f_h0_withins[1]? = some (.int h0_withins_known) → Fr [1] f0_h0_withins f_h0_withins → f_h0_judged[1]? = some (.int h0_judged_known) → Fr [1] f0_h0_judged f_h0_judged → va_P D vwCl [(h0, .inr (0, f0_h0)), (h0_values, .inr (12, f_h0_values)), (h0_withins, .inr (12, f_h0_withins)), (h0_judged, .inr (12, f_h0_judged))] H → va_D A [(h0, .inr (0, f0_h0)), (h0_values, .inr (12, f_h0_values)), (h0_withins, .inr (12, f_h0_withins)), (h0_judged, .inr (12, f_h0_judged))] → va_S A s.heap H locs → lv_has ls 1 [(0, .ref h0)] → W p l e { frames := 0, cells := 0, slots := 0, locals := 0 } s m args below meth c H locs 0 0 (MQ below (va_Qv (fun (u9 : List Value × List Value × List Value) => Fr [1] f0_h0_values u9.1 ∧ u9.1[1]? = some (.int out.1) ∧ Fr [1] f0_h0_withins u9.2.1 ∧ u9.2.1[1]? = some (.int out.2.1) ∧ Fr [1] f0_h0_judged u9.2.2 ∧ u9.2.2[1]? = some (.int out.2.2)) (zPost D A (fun (u9 : List Value × List Value × List Value) => [(h0, .inr (0, f0_h0)), (h0_values, .inr (12, u9.1)), (h0_withins, .inr (12, u9.2.1)), (h0_judged, .inr (12, u9.2.2))])) A) args s 0 0 A) (F0 m 0 ls []) := by
  intro   f_h0_values f_h0_withins f_h0_judged H locs ls hF q_h0_values q_h0_withins q_h0_judged q_h0_values_known r_h0_values q_h0_withins_known r_h0_withins q_h0_judged_known r_h0_judged hP hD hS hl
  replace hF : ((some (0, 0, 0)) : Option (Int32 × Int32 × Int32)) = some out := hF
  refine lv_aload_n hx hb d_CA_forget_0 rfl (lv_at hl 0 rfl) ?_
  refine va_get (D := D) (ci := 0) (v := .ref h0_values) (C := R_CA) (T := T_CA) (N := 19) hx hb hg i_CA hown hK hP 0 rfl rfl 11 (by decide) (hg _ k3_186) (fun _ h9 => h9) q_h0_values d_CA_forget_1 ?_
  refine lv_iconst (v := 0) hx hb d_CA_forget_4 (by decide) ?_
  refine va_put (D := D) (ci := 12) (v := .int 0) (ty := .boolean) (C := R_Fs) (T := T_Fs) (N := 2) hx hb hg i_Fs t_Fs o_Fs n_Fs hown hK hP hD hS 1 rfl rfl 1 (by decide) (hg _ k3_165) (fun _ h9 => h9) rfl (by decide +kernel) rfl rfl (zLen q_h0_values_known) d_CA_forget_5 (fun H1 locs1 hP1 hD1 hS1 => ?_)
  clear hP hD hS
  replace hP1 : va_P D vwCl [(h0, .inr (0, f0_h0)), (h0_values, .inr (12, f_h0_values.set 1 (.int 0))), (h0_withins, .inr (12, f_h0_withins)), (h0_judged, .inr (12, f_h0_judged))] _ := hP1
  replace hD1 : va_D A [(h0, .inr (0, f0_h0)), (h0_values, .inr (12, f_h0_values.set 1 (.int 0))), (h0_withins, .inr (12, f_h0_withins)), (h0_judged, .inr (12, f_h0_judged))] := hD1
  refine lv_aload_n hx hb d_CA_forget_8 rfl (lv_at hl 0 rfl) ?_
  refine va_get (D := D) (ci := 0) (v := .ref h0_withins) (C := R_CA) (T := T_CA) (N := 19) hx hb hg i_CA hown hK hP1 0 rfl rfl 12 (by decide) (hg _ k3_187) (fun _ h9 => h9) q_h0_withins d_CA_forget_9 ?_
  refine lv_iconst (v := 0) hx hb d_CA_forget_12 (by decide) ?_
  refine va_put (D := D) (ci := 12) (v := .int 0) (ty := .boolean) (C := R_Fs) (T := T_Fs) (N := 2) hx hb hg i_Fs t_Fs o_Fs n_Fs hown hK hP1 hD1 hS1 2 rfl rfl 1 (by decide) (hg _ k3_165) (fun _ h9 => h9) rfl (by decide +kernel) rfl rfl (zLen q_h0_withins_known) d_CA_forget_13 (fun H2 locs2 hP2 hD2 hS2 => ?_)
  clear hP1 hD1 hS1
  replace hP2 : va_P D vwCl [(h0, .inr (0, f0_h0)), (h0_values, .inr (12, f_h0_values.set 1 (.int 0))), (h0_withins, .inr (12, f_h0_withins.set 1 (.int 0))), (h0_judged, .inr (12, f_h0_judged))] _ := hP2
  replace hD2 : va_D A [(h0, .inr (0, f0_h0)), (h0_values, .inr (12, f_h0_values.set 1 (.int 0))), (h0_withins, .inr (12, f_h0_withins.set 1 (.int 0))), (h0_judged, .inr (12, f_h0_judged))] := hD2
  refine lv_aload_n hx hb d_CA_forget_16 rfl (lv_at hl 0 rfl) ?_
  refine va_get (D := D) (ci := 0) (v := .ref h0_judged) (C := R_CA) (T := T_CA) (N := 19) hx hb hg i_CA hown hK hP2 0 rfl rfl 14 (by decide) (hg _ k3_189) (fun _ h9 => h9) q_h0_judged d_CA_forget_17 ?_
  refine lv_iconst (v := 0) hx hb d_CA_forget_20 (by decide) ?_
  refine va_put (D := D) (ci := 12) (v := .int 0) (ty := .boolean) (C := R_Fs) (T := T_Fs) (N := 2) hx hb hg i_Fs t_Fs o_Fs n_Fs hown hK hP2 hD2 hS2 3 rfl rfl 1 (by decide) (hg _ k3_165) (fun _ h9 => h9) rfl (by decide +kernel) rfl rfl (zLen q_h0_judged_known) d_CA_forget_21 (fun H3 locs3 hP3 hD3 hS3 => ?_)
  clear hP2 hD2 hS2
  replace hP3 : va_P D vwCl [(h0, .inr (0, f0_h0)), (h0_values, .inr (12, f_h0_values.set 1 (.int 0))), (h0_withins, .inr (12, f_h0_withins.set 1 (.int 0))), (h0_judged, .inr (12, f_h0_judged.set 1 (.int 0)))] _ := hP3
  replace hD3 : va_D A [(h0, .inr (0, f0_h0)), (h0_values, .inr (12, f_h0_values.set 1 (.int 0))), (h0_withins, .inr (12, f_h0_withins.set 1 (.int 0))), (h0_judged, .inr (12, f_h0_judged.set 1 (.int 0)))] := hD3
  replace hF := Option.some.inj hF
  subst hF
  exact zVret (post := (fun (u9 : List Value × List Value × List Value) => Fr [1] f0_h0_values u9.1 ∧ u9.1[1]? = some (.int ((0, 0, 0).1)) ∧ Fr [1] f0_h0_withins u9.2.1 ∧ u9.2.1[1]? = some (.int ((0, 0, 0).2.1)) ∧ Fr [1] f0_h0_judged u9.2.2 ∧ u9.2.2[1]? = some (.int ((0, 0, 0).2.2)))) (W1 := (fun (u9 : List Value × List Value × List Value) => [(h0, .inr (0, f0_h0)), (h0_values, .inr (12, u9.1)), (h0_withins, .inr (12, u9.2.1)), (h0_judged, .inr (12, u9.2.2))])) hx hb hr hlocks hP3 hD3 hS3 (f_h0_values.set 1 (.int 0), f_h0_withins.set 1 (.int 0), f_h0_judged.set 1 (.int 0)) ⟨(Fr.set r_h0_values (by decide)), (zSetS q_h0_values_known), (Fr.set r_h0_withins (by decide)), (zSetS q_h0_withins_known), (Fr.set r_h0_judged (by decide)), (zSetS q_h0_judged_known)⟩ rfl d_CA_forget_24
set_option maxHeartbeats 4000000 in
set_option maxRecDepth 100000 in
theorem m_CA_forget (l : Launch) (D : va_G) (tA : Nat → ClassId) (sz : Nat) (h0 h0_values h0_withins h0_judged : Nat) (f0_h0 f0_h0_values f0_h0_withins f0_h0_judged : List Value) (h0_values_known : Int32) (h0_withins_known : Int32) (h0_judged_known : Int32) (q_h0_values : f0_h0[11]? = some (.ref h0_values)) (q_h0_withins : f0_h0[12]? = some (.ref h0_withins)) (q_h0_judged : f0_h0[14]? = some (.ref h0_judged)) (q_h0_values_known : f0_h0_values[1]? = some (.int h0_values_known)) (q_h0_withins_known : f0_h0_withins[1]? = some (.int h0_withins_known)) (q_h0_judged_known : f0_h0_judged[1]? = some (.int h0_judged_known)) (out : Int32 × Int32 × Int32) (hF : f_CA_forget h0_values_known h0_withins_known h0_judged_known = some out) : zMv l ({ cls := "ChanceArena", name := "forget", desc := "()V" } : Jvm.MethodName) (zW (Jvm.Cond.code ({ cls := "ChanceArena", name := "forget", desc := "()V" } : Jvm.MethodName) prog_1_method_7_code (1 : Nat) (Option.none : Option Jvm.ClassFile.FieldType))) { frames := 0, cells := 0, slots := 0, locals := 0 } [.ref h0] D tA [(h0, .inr (0, f0_h0)), (h0_values, .inr (12, f0_h0_values)), (h0_withins, .inr (12, f0_h0_withins)), (h0_judged, .inr (12, f0_h0_judged))] sz (fun (u9 : List Value × List Value × List Value) => Fr [1] f0_h0_values u9.1 ∧ u9.1[1]? = some (.int out.1) ∧ Fr [1] f0_h0_withins u9.2.1 ∧ u9.2.1[1]? = some (.int out.2.1) ∧ Fr [1] f0_h0_judged u9.2.2 ∧ u9.2.2[1]? = some (.int out.2.2)) (fun (u9 : List Value × List Value × List Value) => [(h0, .inr (0, f0_h0)), (h0_values, .inr (12, u9.1)), (h0_withins, .inr (12, u9.2.1)), (h0_judged, .inr (12, u9.2.2))]) 0 0 := by
  refine zOpen (l := l) (y := ({ cls := "ChanceArena", name := "forget", desc := "()V" } : Jvm.MethodName)) (ws := zW (Jvm.Cond.code ({ cls := "ChanceArena", name := "forget", desc := "()V" } : Jvm.MethodName) prog_1_method_7_code (1 : Nat) (Option.none : Option Jvm.ClassFile.FieldType))) (rm := { frames := 0, cells := 0, slots := 0, locals := 0 }) (av := [.ref h0]) (D := D) (tA := tA) (W0 := [(h0, .inr (0, f0_h0)), (h0_values, .inr (12, f0_h0_values)), (h0_withins, .inr (12, f0_h0_withins)), (h0_judged, .inr (12, f0_h0_judged))]) (Wm := [(h0, .inr (0, f0_h0)), (h0_values, .inr (12, f0_h0_values)), (h0_withins, .inr (12, f0_h0_withins)), (h0_judged, .inr (12, f0_h0_judged))]) (sz := sz) (mc := 0) (ms := 0) (fun A => va_Qv (fun (u9 : List Value × List Value × List Value) => Fr [1] f0_h0_values u9.1 ∧ u9.1[1]? = some (.int out.1) ∧ Fr [1] f0_h0_withins u9.2.1 ∧ u9.2.1[1]? = some (.int out.2.1) ∧ Fr [1] f0_h0_judged u9.2.2 ∧ u9.2.2[1]? = some (.int out.2.2)) (zPost D A (fun (u9 : List Value × List Value × List Value) => [(h0, .inr (0, f0_h0)), (h0_values, .inr (12, u9.1)), (h0_withins, .inr (12, u9.2.1)), (h0_judged, .inr (12, u9.2.2))])) A) (lv := [(0, .ref h0)]) (by decide) rfl (Nat.le_of_ble_eq_true rfl) rfl ?_
  intro p e s m below meth c A ls hx hb hr hml hh hg hown hlocks hnm hK hA hP hD0 hAw hS hl
  have hD := zD hD0 hAw
  exact b_CA_forget_0 hx hb hr hml hh hg hown hlocks hK hA   f0_h0_values f0_h0_withins f0_h0_judged _ _ _ hF q_h0_values q_h0_withins q_h0_judged q_h0_values_known Fr.rfl q_h0_withins_known Fr.rfl q_h0_judged_known Fr.rfl hP hD hS hl
def f_CA_place (h0_faultPlace : Int32) : Option (Int32) := some (h0_faultPlace)
set_option maxHeartbeats 4000000 in
set_option maxRecDepth 100000 in
theorem b_CA_place_0 {p : Program} {l : Launch} {e : Env} {s : State} {m : MethodId} {args : Array Value} {below : List Frame} {meth : Method} {c : Code} {D : va_G} {tA : Nat → ClassId} {A : Nat → Prop} {h0 : Nat} {f0_h0 : List Value} {h0_faultPlace : Int32} {out : Int32} (hx : p.tables.exec = Jvm.exec) (hb : c.code = prog_1_method_8_code) (hr : meth.sig.returnType = (Option.some Jvm.ClassFile.FieldType.int)) (hml : c.maxLocals = 1) (hh : zH s) (hg : ∀ w ∈ lw_R, w.before args s = true) (hown : s.vm.findClass "ChanceArena" = some m.cls) (hlocks : meth.locks = false) (hK : va_K D vwCl (zT tA) s) (hA : ∀ q, s.heap.size ≤ q → A q)  : ∀ (H : Heap) (locs : List Loc) (ls : Array Slot), f_CA_place h0_faultPlace = some out → f0_h0[7]? = some (.int h0_faultPlace) → va_P D vwCl [(h0, .inr (0, f0_h0))] H → va_D A [(h0, .inr (0, f0_h0))] → va_S A s.heap H locs → lv_has ls 1 [(0, .ref h0)] → W p l e { frames := 0, cells := 0, slots := 0, locals := 0 } s m args below meth c H locs 0 0 (MQ below (va_Qi (fun (r9 : Int32) (u9 : Unit) => r9 = out) (zPost D A (fun (u9 : Unit) => [(h0, .inr (0, f0_h0))])) A) args s 0 0 A) (F0 m 0 ls []) := by
  intro    H locs ls hF q_h0_faultPlace hP hD hS hl
  replace hF : ((some (h0_faultPlace)) : Option (Int32)) = some out := hF
  refine lv_aload_n hx hb d_CA_place_0 rfl (lv_at hl 0 rfl) ?_
  refine va_get (D := D) (ci := 0) (v := .int h0_faultPlace) (C := R_CA) (T := T_CA) (N := 19) hx hb hg i_CA hown hK hP 0 rfl rfl 7 (by decide) (hg _ k3_182) (fun _ h9 => h9) q_h0_faultPlace d_CA_place_1 ?_
  replace hF := Option.some.inj hF
  subst hF
  exact zZret (post := (fun (r9 : Int32) (u9 : Unit) => r9 = h0_faultPlace)) (W1 := (fun (u9 : Unit) => [(h0, .inr (0, f0_h0))])) (v := h0_faultPlace) hx hb hr rfl hlocks hP hD hS () rfl rfl d_CA_place_4
set_option maxHeartbeats 4000000 in
set_option maxRecDepth 100000 in
theorem m_CA_place (l : Launch) (D : va_G) (tA : Nat → ClassId) (sz : Nat) (h0 : Nat) (f0_h0 : List Value) (h0_faultPlace : Int32) (q_h0_faultPlace : f0_h0[7]? = some (.int h0_faultPlace)) (out : Int32) (hF : f_CA_place h0_faultPlace = some out) : zMi l ({ cls := "ChanceArena", name := "place", desc := "()I" } : Jvm.MethodName) (zW (Jvm.Cond.code ({ cls := "ChanceArena", name := "place", desc := "()I" } : Jvm.MethodName) prog_1_method_8_code (1 : Nat) (Option.some Jvm.ClassFile.FieldType.int))) { frames := 0, cells := 0, slots := 0, locals := 0 } [.ref h0] D tA [(h0, .inr (0, f0_h0))] sz (fun (r9 : Int32) (u9 : Unit) => r9 = out) (fun (u9 : Unit) => [(h0, .inr (0, f0_h0))]) 0 0 := by
  refine zOpen (l := l) (y := ({ cls := "ChanceArena", name := "place", desc := "()I" } : Jvm.MethodName)) (ws := zW (Jvm.Cond.code ({ cls := "ChanceArena", name := "place", desc := "()I" } : Jvm.MethodName) prog_1_method_8_code (1 : Nat) (Option.some Jvm.ClassFile.FieldType.int))) (rm := { frames := 0, cells := 0, slots := 0, locals := 0 }) (av := [.ref h0]) (D := D) (tA := tA) (W0 := [(h0, .inr (0, f0_h0))]) (Wm := [(h0, .inr (0, f0_h0))]) (sz := sz) (mc := 0) (ms := 0) (fun A => va_Qi (fun (r9 : Int32) (u9 : Unit) => r9 = out) (zPost D A (fun (u9 : Unit) => [(h0, .inr (0, f0_h0))])) A) (lv := [(0, .ref h0)]) (by decide) rfl (Nat.le_of_ble_eq_true rfl) rfl ?_
  intro p e s m below meth c A ls hx hb hr hml hh hg hown hlocks hnm hK hA hP hD0 hAw hS hl
  have hD := zD hD0 hAw
  exact b_CA_place_0 hx hb hr hml hh hg hown hlocks hK hA    _ _ _ hF q_h0_faultPlace hP hD hS hl
def f_CA_items (l1 : Int32) (h0_hasText : Int32) (h0_text_vars : Int32) (h0_text_commands : Int32) (h0_text_names : Int32) : Option (Int32) := if ¬ (h0_hasText : Int32) = 0 then (if (l1 : Int32).toInt = 0 then (some (h0_text_vars)) else if (l1 : Int32).toInt = 1 then (some (h0_text_names)) else if (l1 : Int32).toInt = 2 then (some (h0_text_commands)) else some ((-1))) else some ((-1))
set_option maxHeartbeats 4000000 in
set_option maxRecDepth 100000 in
theorem b_CA_items_0 {p : Program} {l : Launch} {e : Env} {s : State} {m : MethodId} {args : Array Value} {below : List Frame} {meth : Method} {c : Code} {D : va_G} {tA : Nat → ClassId} {A : Nat → Prop} {h0 h0_text : Nat} {f0_h0 f0_h0_text : List Value} {l1 : Int32} {h0_hasText : Int32} {h0_text_vars : Int32} {h0_text_commands : Int32} {h0_text_names : Int32} {out : Int32} (hx : p.tables.exec = Jvm.exec) (hb : c.code = prog_1_method_9_code) (hr : meth.sig.returnType = (Option.some Jvm.ClassFile.FieldType.int)) (hml : c.maxLocals = 2) (hh : zH s) (hg : ∀ w ∈ lw_R, w.before args s = true) (hown : s.vm.findClass "ChanceArena" = some m.cls) (hlocks : meth.locks = false) (hK : va_K D vwCl (zT tA) s) (hA : ∀ q, s.heap.size ≤ q → A q)  : ∀ (H : Heap) (locs : List Loc) (ls : Array Slot), f_CA_items l1 h0_hasText h0_text_vars h0_text_commands h0_text_names = some out → f0_h0[4]? = some (.ref h0_text) → f0_h0[6]? = some (.int h0_hasText) → f0_h0_text[3]? = some (.int h0_text_vars) → f0_h0_text[12]? = some (.int h0_text_commands) → f0_h0_text[7]? = some (.int h0_text_names) → va_P D vwCl [(h0, .inr (0, f0_h0)), (h0_text, .inr (5, f0_h0_text))] H → va_D A [(h0, .inr (0, f0_h0)), (h0_text, .inr (5, f0_h0_text))] → va_S A s.heap H locs → lv_has ls 2 [(0, .ref h0), (1, .int l1)] → W p l e { frames := 0, cells := 0, slots := 0, locals := 0 } s m args below meth c H locs 0 0 (MQ below (va_Qi (fun (r9 : Int32) (u9 : Unit) => r9 = out) (zPost D A (fun (u9 : Unit) => [(h0, .inr (0, f0_h0)), (h0_text, .inr (5, f0_h0_text))])) A) args s 0 0 A) (F0 m 0 ls []) := by
  intro    H locs ls hF q_h0_text q_h0_hasText q_h0_text_vars q_h0_text_commands q_h0_text_names hP hD hS hl
  replace hF : ((if ¬ (h0_hasText : Int32) = 0 then (if (l1 : Int32).toInt = 0 then (some (h0_text_vars)) else if (l1 : Int32).toInt = 1 then (some (h0_text_names)) else if (l1 : Int32).toInt = 2 then (some (h0_text_commands)) else some ((-1))) else some ((-1))) : Option (Int32)) = some out := hF
  refine lv_aload_n hx hb d_CA_items_0 rfl (lv_at hl 0 rfl) ?_
  refine va_get (D := D) (ci := 0) (v := .int h0_hasText) (C := R_CA) (T := T_CA) (N := 19) hx hb hg i_CA hown hK hP 0 rfl rfl 6 (by decide) (hg _ k3_181) (fun _ h9 => h9) q_h0_hasText d_CA_items_1 ?_
  refine lv_if_ne (tgt := 9) hx hb d_CA_items_4 (by decide) (fun c9 => ?_) (fun c9 => ?_)
  · replace hF := ifp c9 hF
    refine lv_iload_n hx hb d_CA_items_9 rfl (lv_at hl 1 rfl) ?_
    by_cases w10_0 : (l1 : Int32).toInt = 0
    · replace hF := ifp w10_0 hF
      refine lv_tableIn (off := 26) (tgt := 36) hx hb d_CA_items_10 (by omega) (by omega) (by rw [w10_0]; rfl) (by decide) ?_
      refine lv_aload_n hx hb d_CA_items_36 rfl (lv_at hl 0 rfl) ?_
      refine va_get (D := D) (ci := 0) (v := .ref h0_text) (C := R_CA) (T := T_CA) (N := 19) hx hb hg i_CA hown hK hP 0 rfl rfl 4 (by decide) (hg _ k3_179) (fun _ h9 => h9) q_h0_text d_CA_items_37 ?_
      refine va_get (D := D) (ci := 5) (v := .int h0_text_vars) (C := R_Pr) (T := T_Pr) (N := 20) hx hb hg i_Pr hown hK hP 1 rfl rfl 3 (by decide) (hg _ k2_35) (fun _ h9 => h9) q_h0_text_vars d_CA_items_40 ?_
      replace hF := Option.some.inj hF
      subst hF
      exact zZret (post := (fun (r9 : Int32) (u9 : Unit) => r9 = h0_text_vars)) (W1 := (fun (u9 : Unit) => [(h0, .inr (0, f0_h0)), (h0_text, .inr (5, f0_h0_text))])) (v := h0_text_vars) hx hb hr rfl hlocks hP hD hS () rfl rfl d_CA_items_43
    · replace hF := ifn w10_0 hF
      by_cases w10_1 : (l1 : Int32).toInt = 1
      · replace hF := ifp w10_1 hF
        refine lv_tableIn (off := 34) (tgt := 44) hx hb d_CA_items_10 (by omega) (by omega) (by rw [w10_1]; rfl) (by decide) ?_
        refine lv_aload_n hx hb d_CA_items_44 rfl (lv_at hl 0 rfl) ?_
        refine va_get (D := D) (ci := 0) (v := .ref h0_text) (C := R_CA) (T := T_CA) (N := 19) hx hb hg i_CA hown hK hP 0 rfl rfl 4 (by decide) (hg _ k3_179) (fun _ h9 => h9) q_h0_text d_CA_items_45 ?_
        refine va_get (D := D) (ci := 5) (v := .int h0_text_names) (C := R_Pr) (T := T_Pr) (N := 20) hx hb hg i_Pr hown hK hP 1 rfl rfl 7 (by decide) (hg _ k2_47) (fun _ h9 => h9) q_h0_text_names d_CA_items_48 ?_
        replace hF := Option.some.inj hF
        subst hF
        exact zZret (post := (fun (r9 : Int32) (u9 : Unit) => r9 = h0_text_names)) (W1 := (fun (u9 : Unit) => [(h0, .inr (0, f0_h0)), (h0_text, .inr (5, f0_h0_text))])) (v := h0_text_names) hx hb hr rfl hlocks hP hD hS () rfl rfl d_CA_items_51
      · replace hF := ifn w10_1 hF
        by_cases w10_2 : (l1 : Int32).toInt = 2
        · replace hF := ifp w10_2 hF
          refine lv_tableIn (off := 42) (tgt := 52) hx hb d_CA_items_10 (by omega) (by omega) (by rw [w10_2]; rfl) (by decide) ?_
          refine lv_aload_n hx hb d_CA_items_52 rfl (lv_at hl 0 rfl) ?_
          refine va_get (D := D) (ci := 0) (v := .ref h0_text) (C := R_CA) (T := T_CA) (N := 19) hx hb hg i_CA hown hK hP 0 rfl rfl 4 (by decide) (hg _ k3_179) (fun _ h9 => h9) q_h0_text d_CA_items_53 ?_
          refine va_get (D := D) (ci := 5) (v := .int h0_text_commands) (C := R_Pr) (T := T_Pr) (N := 20) hx hb hg i_Pr hown hK hP 1 rfl rfl 12 (by decide) (hg _ k2_62) (fun _ h9 => h9) q_h0_text_commands d_CA_items_56 ?_
          replace hF := Option.some.inj hF
          subst hF
          exact zZret (post := (fun (r9 : Int32) (u9 : Unit) => r9 = h0_text_commands)) (W1 := (fun (u9 : Unit) => [(h0, .inr (0, f0_h0)), (h0_text, .inr (5, f0_h0_text))])) (v := h0_text_commands) hx hb hr rfl hlocks hP hD hS () rfl rfl d_CA_items_59
        · replace hF := ifn w10_2 hF
          refine lv_tableOut (tgt := 60) hx hb d_CA_items_10 (by omega) (by decide) ?_
          refine lv_iconst (v := (-1)) hx hb d_CA_items_60 (by decide) ?_
          replace hF := Option.some.inj hF
          subst hF
          exact zZret (post := (fun (r9 : Int32) (u9 : Unit) => r9 = (-1))) (W1 := (fun (u9 : Unit) => [(h0, .inr (0, f0_h0)), (h0_text, .inr (5, f0_h0_text))])) (v := (-1)) hx hb hr rfl hlocks hP hD hS () rfl rfl d_CA_items_61
  · replace hF := ifn (fun h9 => h9 c9) hF
    refine lv_iconst (v := (-1)) hx hb d_CA_items_7 (by decide) ?_
    replace hF := Option.some.inj hF
    subst hF
    exact zZret (post := (fun (r9 : Int32) (u9 : Unit) => r9 = (-1))) (W1 := (fun (u9 : Unit) => [(h0, .inr (0, f0_h0)), (h0_text, .inr (5, f0_h0_text))])) (v := (-1)) hx hb hr rfl hlocks hP hD hS () rfl rfl d_CA_items_8
set_option maxHeartbeats 4000000 in
set_option maxRecDepth 100000 in
theorem m_CA_items (l : Launch) (D : va_G) (tA : Nat → ClassId) (sz : Nat) (h0 h0_text : Nat) (f0_h0 f0_h0_text : List Value) (l1 : Int32) (h0_hasText : Int32) (h0_text_vars : Int32) (h0_text_commands : Int32) (h0_text_names : Int32) (q_h0_text : f0_h0[4]? = some (.ref h0_text)) (q_h0_hasText : f0_h0[6]? = some (.int h0_hasText)) (q_h0_text_vars : f0_h0_text[3]? = some (.int h0_text_vars)) (q_h0_text_commands : f0_h0_text[12]? = some (.int h0_text_commands)) (q_h0_text_names : f0_h0_text[7]? = some (.int h0_text_names)) (out : Int32) (hF : f_CA_items l1 h0_hasText h0_text_vars h0_text_commands h0_text_names = some out) : zMi l ({ cls := "ChanceArena", name := "items", desc := "(I)I" } : Jvm.MethodName) (zW (Jvm.Cond.code ({ cls := "ChanceArena", name := "items", desc := "(I)I" } : Jvm.MethodName) prog_1_method_9_code (2 : Nat) (Option.some Jvm.ClassFile.FieldType.int))) { frames := 0, cells := 0, slots := 0, locals := 0 } [.ref h0, .int l1] D tA [(h0, .inr (0, f0_h0)), (h0_text, .inr (5, f0_h0_text))] sz (fun (r9 : Int32) (u9 : Unit) => r9 = out) (fun (u9 : Unit) => [(h0, .inr (0, f0_h0)), (h0_text, .inr (5, f0_h0_text))]) 0 0 := by
  refine zOpen (l := l) (y := ({ cls := "ChanceArena", name := "items", desc := "(I)I" } : Jvm.MethodName)) (ws := zW (Jvm.Cond.code ({ cls := "ChanceArena", name := "items", desc := "(I)I" } : Jvm.MethodName) prog_1_method_9_code (2 : Nat) (Option.some Jvm.ClassFile.FieldType.int))) (rm := { frames := 0, cells := 0, slots := 0, locals := 0 }) (av := [.ref h0, .int l1]) (D := D) (tA := tA) (W0 := [(h0, .inr (0, f0_h0)), (h0_text, .inr (5, f0_h0_text))]) (Wm := [(h0, .inr (0, f0_h0)), (h0_text, .inr (5, f0_h0_text))]) (sz := sz) (mc := 0) (ms := 0) (fun A => va_Qi (fun (r9 : Int32) (u9 : Unit) => r9 = out) (zPost D A (fun (u9 : Unit) => [(h0, .inr (0, f0_h0)), (h0_text, .inr (5, f0_h0_text))])) A) (lv := [(0, .ref h0), (1, .int l1)]) (by decide) rfl (Nat.le_of_ble_eq_true rfl) rfl ?_
  intro p e s m below meth c A ls hx hb hr hml hh hg hown hlocks hnm hK hA hP hD0 hAw hS hl
  have hD := zD hD0 hAw
  exact b_CA_items_0 hx hb hr hml hh hg hown hlocks hK hA    _ _ _ hF q_h0_text q_h0_hasText q_h0_text_vars q_h0_text_commands q_h0_text_names hP hD hS hl
def f_CA_state (h0_faultState : Int32) : Option (Int32) := some (h0_faultState)
set_option maxHeartbeats 4000000 in
set_option maxRecDepth 100000 in
theorem b_CA_state_0 {p : Program} {l : Launch} {e : Env} {s : State} {m : MethodId} {args : Array Value} {below : List Frame} {meth : Method} {c : Code} {D : va_G} {tA : Nat → ClassId} {A : Nat → Prop} {h0 : Nat} {f0_h0 : List Value} {h0_faultState : Int32} {out : Int32} (hx : p.tables.exec = Jvm.exec) (hb : c.code = prog_1_method_11_code) (hr : meth.sig.returnType = (Option.some Jvm.ClassFile.FieldType.int)) (hml : c.maxLocals = 1) (hh : zH s) (hg : ∀ w ∈ lw_R, w.before args s = true) (hown : s.vm.findClass "ChanceArena" = some m.cls) (hlocks : meth.locks = false) (hK : va_K D vwCl (zT tA) s) (hA : ∀ q, s.heap.size ≤ q → A q)  : ∀ (H : Heap) (locs : List Loc) (ls : Array Slot), f_CA_state h0_faultState = some out → f0_h0[8]? = some (.int h0_faultState) → va_P D vwCl [(h0, .inr (0, f0_h0))] H → va_D A [(h0, .inr (0, f0_h0))] → va_S A s.heap H locs → lv_has ls 1 [(0, .ref h0)] → W p l e { frames := 0, cells := 0, slots := 0, locals := 0 } s m args below meth c H locs 0 0 (MQ below (va_Qi (fun (r9 : Int32) (u9 : Unit) => r9 = out) (zPost D A (fun (u9 : Unit) => [(h0, .inr (0, f0_h0))])) A) args s 0 0 A) (F0 m 0 ls []) := by
  intro    H locs ls hF q_h0_faultState hP hD hS hl
  replace hF : ((some (h0_faultState)) : Option (Int32)) = some out := hF
  refine lv_aload_n hx hb d_CA_state_0 rfl (lv_at hl 0 rfl) ?_
  refine va_get (D := D) (ci := 0) (v := .int h0_faultState) (C := R_CA) (T := T_CA) (N := 19) hx hb hg i_CA hown hK hP 0 rfl rfl 8 (by decide) (hg _ k3_183) (fun _ h9 => h9) q_h0_faultState d_CA_state_1 ?_
  replace hF := Option.some.inj hF
  subst hF
  exact zZret (post := (fun (r9 : Int32) (u9 : Unit) => r9 = h0_faultState)) (W1 := (fun (u9 : Unit) => [(h0, .inr (0, f0_h0))])) (v := h0_faultState) hx hb hr rfl hlocks hP hD hS () rfl rfl d_CA_state_4
set_option maxHeartbeats 4000000 in
set_option maxRecDepth 100000 in
theorem m_CA_state (l : Launch) (D : va_G) (tA : Nat → ClassId) (sz : Nat) (h0 : Nat) (f0_h0 : List Value) (h0_faultState : Int32) (q_h0_faultState : f0_h0[8]? = some (.int h0_faultState)) (out : Int32) (hF : f_CA_state h0_faultState = some out) : zMi l ({ cls := "ChanceArena", name := "state", desc := "()I" } : Jvm.MethodName) (zW (Jvm.Cond.code ({ cls := "ChanceArena", name := "state", desc := "()I" } : Jvm.MethodName) prog_1_method_11_code (1 : Nat) (Option.some Jvm.ClassFile.FieldType.int))) { frames := 0, cells := 0, slots := 0, locals := 0 } [.ref h0] D tA [(h0, .inr (0, f0_h0))] sz (fun (r9 : Int32) (u9 : Unit) => r9 = out) (fun (u9 : Unit) => [(h0, .inr (0, f0_h0))]) 0 0 := by
  refine zOpen (l := l) (y := ({ cls := "ChanceArena", name := "state", desc := "()I" } : Jvm.MethodName)) (ws := zW (Jvm.Cond.code ({ cls := "ChanceArena", name := "state", desc := "()I" } : Jvm.MethodName) prog_1_method_11_code (1 : Nat) (Option.some Jvm.ClassFile.FieldType.int))) (rm := { frames := 0, cells := 0, slots := 0, locals := 0 }) (av := [.ref h0]) (D := D) (tA := tA) (W0 := [(h0, .inr (0, f0_h0))]) (Wm := [(h0, .inr (0, f0_h0))]) (sz := sz) (mc := 0) (ms := 0) (fun A => va_Qi (fun (r9 : Int32) (u9 : Unit) => r9 = out) (zPost D A (fun (u9 : Unit) => [(h0, .inr (0, f0_h0))])) A) (lv := [(0, .ref h0)]) (by decide) rfl (Nat.le_of_ble_eq_true rfl) rfl ?_
  intro p e s m below meth c A ls hx hb hr hml hh hg hown hlocks hnm hK hA hP hD0 hAw hS hl
  have hD := zD hD0 hAw
  exact b_CA_state_0 hx hb hr hml hh hg hown hlocks hK hA    _ _ _ hF q_h0_faultState hP hD hS hl
def f_CA_states (h0_game_count : Int32) : Option (Int32) := some (h0_game_count)
set_option maxHeartbeats 4000000 in
set_option maxRecDepth 100000 in
theorem b_CA_states_0 {p : Program} {l : Launch} {e : Env} {s : State} {m : MethodId} {args : Array Value} {below : List Frame} {meth : Method} {c : Code} {D : va_G} {tA : Nat → ClassId} {A : Nat → Prop} {h0 h0_game : Nat} {f0_h0 f0_h0_game : List Value} {h0_game_count : Int32} {out : Int32} (hx : p.tables.exec = Jvm.exec) (hb : c.code = prog_1_method_12_code) (hr : meth.sig.returnType = (Option.some Jvm.ClassFile.FieldType.int)) (hml : c.maxLocals = 1) (hh : zH s) (hg : ∀ w ∈ lw_R, w.before args s = true) (hown : s.vm.findClass "ChanceArena" = some m.cls) (hlocks : meth.locks = false) (hK : va_K D vwCl (zT tA) s) (hA : ∀ q, s.heap.size ≤ q → A q)  : ∀ (H : Heap) (locs : List Loc) (ls : Array Slot), f_CA_states h0_game_count = some out → f0_h0[9]? = some (.ref h0_game) → f0_h0_game[0]? = some (.int h0_game_count) → va_P D vwCl [(h0, .inr (0, f0_h0)), (h0_game, .inr (6, f0_h0_game))] H → va_D A [(h0, .inr (0, f0_h0)), (h0_game, .inr (6, f0_h0_game))] → va_S A s.heap H locs → lv_has ls 1 [(0, .ref h0)] → W p l e { frames := 0, cells := 0, slots := 0, locals := 0 } s m args below meth c H locs 0 0 (MQ below (va_Qi (fun (r9 : Int32) (u9 : Unit) => r9 = out) (zPost D A (fun (u9 : Unit) => [(h0, .inr (0, f0_h0)), (h0_game, .inr (6, f0_h0_game))])) A) args s 0 0 A) (F0 m 0 ls []) := by
  intro    H locs ls hF q_h0_game q_h0_game_count hP hD hS hl
  replace hF : ((some (h0_game_count)) : Option (Int32)) = some out := hF
  refine lv_aload_n hx hb d_CA_states_0 rfl (lv_at hl 0 rfl) ?_
  refine va_get (D := D) (ci := 0) (v := .ref h0_game) (C := R_CA) (T := T_CA) (N := 19) hx hb hg i_CA hown hK hP 0 rfl rfl 9 (by decide) (hg _ k3_184) (fun _ h9 => h9) q_h0_game d_CA_states_1 ?_
  refine va_get (D := D) (ci := 6) (v := .int h0_game_count) (C := R_Ga) (T := T_Ga) (N := 19) hx hb hg i_Ga hown hK hP 1 rfl rfl 0 (by decide) (hg _ k2_138) (fun _ h9 => h9) q_h0_game_count d_CA_states_4 ?_
  replace hF := Option.some.inj hF
  subst hF
  exact zZret (post := (fun (r9 : Int32) (u9 : Unit) => r9 = h0_game_count)) (W1 := (fun (u9 : Unit) => [(h0, .inr (0, f0_h0)), (h0_game, .inr (6, f0_h0_game))])) (v := h0_game_count) hx hb hr rfl hlocks hP hD hS () rfl rfl d_CA_states_7
set_option maxHeartbeats 4000000 in
set_option maxRecDepth 100000 in
theorem m_CA_states (l : Launch) (D : va_G) (tA : Nat → ClassId) (sz : Nat) (h0 h0_game : Nat) (f0_h0 f0_h0_game : List Value) (h0_game_count : Int32) (q_h0_game : f0_h0[9]? = some (.ref h0_game)) (q_h0_game_count : f0_h0_game[0]? = some (.int h0_game_count)) (out : Int32) (hF : f_CA_states h0_game_count = some out) : zMi l ({ cls := "ChanceArena", name := "states", desc := "()I" } : Jvm.MethodName) (zW (Jvm.Cond.code ({ cls := "ChanceArena", name := "states", desc := "()I" } : Jvm.MethodName) prog_1_method_12_code (1 : Nat) (Option.some Jvm.ClassFile.FieldType.int))) { frames := 0, cells := 0, slots := 0, locals := 0 } [.ref h0] D tA [(h0, .inr (0, f0_h0)), (h0_game, .inr (6, f0_h0_game))] sz (fun (r9 : Int32) (u9 : Unit) => r9 = out) (fun (u9 : Unit) => [(h0, .inr (0, f0_h0)), (h0_game, .inr (6, f0_h0_game))]) 0 0 := by
  refine zOpen (l := l) (y := ({ cls := "ChanceArena", name := "states", desc := "()I" } : Jvm.MethodName)) (ws := zW (Jvm.Cond.code ({ cls := "ChanceArena", name := "states", desc := "()I" } : Jvm.MethodName) prog_1_method_12_code (1 : Nat) (Option.some Jvm.ClassFile.FieldType.int))) (rm := { frames := 0, cells := 0, slots := 0, locals := 0 }) (av := [.ref h0]) (D := D) (tA := tA) (W0 := [(h0, .inr (0, f0_h0)), (h0_game, .inr (6, f0_h0_game))]) (Wm := [(h0, .inr (0, f0_h0)), (h0_game, .inr (6, f0_h0_game))]) (sz := sz) (mc := 0) (ms := 0) (fun A => va_Qi (fun (r9 : Int32) (u9 : Unit) => r9 = out) (zPost D A (fun (u9 : Unit) => [(h0, .inr (0, f0_h0)), (h0_game, .inr (6, f0_h0_game))])) A) (lv := [(0, .ref h0)]) (by decide) rfl (Nat.le_of_ble_eq_true rfl) rfl ?_
  intro p e s m below meth c A ls hx hb hr hml hh hg hown hlocks hnm hK hA hP hD0 hAw hS hl
  have hD := zD hD0 hAw
  exact b_CA_states_0 hx hb hr hml hh hg hown hlocks hK hA    _ _ _ hF q_h0_game q_h0_game_count hP hD hS hl
def f_CA_character (h0_printed_n : Nat) (l1 : Int32) (h0_printedLength : Int32) (h0_printed_c : Nat → Int32) : Option (Int32) := if (l1 : Int32) < 0 then some ((-1)) else if (l1 : Int32) < h0_printedLength then chk (0 ≤ (l1 : Int32).toInt ∧ (l1 : Int32).toInt < h0_printed_n) (some ((h0_printed_c (l1 : Int32).toNatClampNeg))) else some ((-1))
set_option maxHeartbeats 4000000 in
set_option maxRecDepth 100000 in
theorem b_CA_character_0 {p : Program} {l : Launch} {e : Env} {s : State} {m : MethodId} {args : Array Value} {below : List Frame} {meth : Method} {c : Code} {D : va_G} {tA : Nat → ClassId} {A : Nat → Prop} {h0 h0_printed : Nat} {f0_h0 : List Value} {h0_printed_n : Nat} {l1 : Int32} {h0_printedLength : Int32} {h0_printed_c : Nat → Int32} {out : Int32} (hx : p.tables.exec = Jvm.exec) (hb : c.code = prog_1_method_27_code) (hr : meth.sig.returnType = (Option.some Jvm.ClassFile.FieldType.int)) (hml : c.maxLocals = 2) (hh : zH s) (hg : ∀ w ∈ lw_R, w.before args s = true) (hown : s.vm.findClass "ChanceArena" = some m.cls) (hlocks : meth.locks = false) (hK : va_K D vwCl (zT tA) s) (hA : ∀ q, s.heap.size ≤ q → A q)  : ∀ (H : Heap) (locs : List Loc) (ls : Array Slot), f_CA_character h0_printed_n l1 h0_printedLength h0_printed_c = some out → f0_h0[17]? = some (.ref h0_printed) → f0_h0[18]? = some (.int h0_printedLength) → va_P D vwCl [(h0, .inr (0, f0_h0)), (h0_printed, .inl (tA 2, h0_printed_n, .inl h0_printed_c))] H → va_D A [(h0, .inr (0, f0_h0)), (h0_printed, .inl (tA 2, h0_printed_n, .inl h0_printed_c))] → va_S A s.heap H locs → lv_has ls 2 [(0, .ref h0), (1, .int l1)] → W p l e { frames := 0, cells := 0, slots := 0, locals := 0 } s m args below meth c H locs 0 0 (MQ below (va_Qi (fun (r9 : Int32) (u9 : Unit) => r9 = out) (zPost D A (fun (u9 : Unit) => [(h0, .inr (0, f0_h0)), (h0_printed, .inl (tA 2, h0_printed_n, .inl h0_printed_c))])) A) args s 0 0 A) (F0 m 0 ls []) := by
  intro    H locs ls hF q_h0_printed q_h0_printedLength hP hD hS hl
  replace hF : ((if (l1 : Int32) < 0 then some ((-1)) else if (l1 : Int32) < h0_printedLength then chk (0 ≤ (l1 : Int32).toInt ∧ (l1 : Int32).toInt < h0_printed_n) (some ((h0_printed_c (l1 : Int32).toNatClampNeg))) else some ((-1))) : Option (Int32)) = some out := hF
  refine lv_iload_n hx hb d_CA_character_0 rfl (lv_at hl 1 rfl) ?_
  refine lv_if_lt (tgt := 12) hx hb d_CA_character_1 (by decide) (fun c9 => ?_) (fun c9 => ?_)
  · replace hF := ifp c9 hF
    refine lv_iconst (v := (-1)) hx hb d_CA_character_12 (by decide) ?_
    refine lv_goto (tgt := 22) hx hb d_CA_character_13 (by decide) ?_
    replace hF := Option.some.inj hF
    subst hF
    exact zZret (post := (fun (r9 : Int32) (u9 : Unit) => r9 = (-1))) (W1 := (fun (u9 : Unit) => [(h0, .inr (0, f0_h0)), (h0_printed, .inl (tA 2, h0_printed_n, .inl h0_printed_c))])) (v := (-1)) hx hb hr rfl hlocks hP hD hS () rfl rfl d_CA_character_22
  · replace hF := ifn c9 hF
    refine lv_iload_n hx hb d_CA_character_4 rfl (lv_at hl 1 rfl) ?_
    refine lv_aload_n hx hb d_CA_character_5 rfl (lv_at hl 0 rfl) ?_
    refine va_get (D := D) (ci := 0) (v := .int h0_printedLength) (C := R_CA) (T := T_CA) (N := 19) hx hb hg i_CA hown hK hP 0 rfl rfl 18 (by decide) (hg _ k3_193) (fun _ h9 => h9) q_h0_printedLength d_CA_character_6 ?_
    refine lv_icmp_lt (tgt := 16) hx hb d_CA_character_9 (by decide) (fun c9 => ?_) (fun c9 => ?_)
    · replace hF := ifp c9 hF
      refine lv_aload_n hx hb d_CA_character_16 rfl (lv_at hl 0 rfl) ?_
      refine va_get (D := D) (ci := 0) (v := .ref h0_printed) (C := R_CA) (T := T_CA) (N := 19) hx hb hg i_CA hown hK hP 0 rfl rfl 17 (by decide) (hg _ k3_192) (fun _ h9 => h9) q_h0_printed d_CA_character_17 ?_
      refine lv_iload_n hx hb d_CA_character_20 rfl (lv_at hl 1 rfl) ?_
      obtain ⟨h9, hF⟩ := chk_some hF
      refine va_cald hx hb hK hP 1 2 rfl rfl (vp_in_iff.mpr h9) d_CA_character_21 ?_
      replace hF := Option.some.inj hF
      subst hF
      exact zZret (post := (fun (r9 : Int32) (u9 : Unit) => r9 = (h0_printed_c (l1 : Int32).toNatClampNeg))) (W1 := (fun (u9 : Unit) => [(h0, .inr (0, f0_h0)), (h0_printed, .inl (tA 2, h0_printed_n, .inl h0_printed_c))])) (v := (h0_printed_c (l1 : Int32).toNatClampNeg)) hx hb hr rfl hlocks hP hD hS () rfl rfl d_CA_character_22
    · replace hF := ifn c9 hF
      refine lv_iconst (v := (-1)) hx hb d_CA_character_12 (by decide) ?_
      refine lv_goto (tgt := 22) hx hb d_CA_character_13 (by decide) ?_
      replace hF := Option.some.inj hF
      subst hF
      exact zZret (post := (fun (r9 : Int32) (u9 : Unit) => r9 = (-1))) (W1 := (fun (u9 : Unit) => [(h0, .inr (0, f0_h0)), (h0_printed, .inl (tA 2, h0_printed_n, .inl h0_printed_c))])) (v := (-1)) hx hb hr rfl hlocks hP hD hS () rfl rfl d_CA_character_22
set_option maxHeartbeats 4000000 in
set_option maxRecDepth 100000 in
theorem m_CA_character (l : Launch) (D : va_G) (tA : Nat → ClassId) (sz : Nat) (h0 h0_printed : Nat) (f0_h0 : List Value) (h0_printed_n : Nat) (l1 : Int32) (h0_printedLength : Int32) (h0_printed_c : Nat → Int32) (q_h0_printed : f0_h0[17]? = some (.ref h0_printed)) (q_h0_printedLength : f0_h0[18]? = some (.int h0_printedLength)) (out : Int32) (hF : f_CA_character h0_printed_n l1 h0_printedLength h0_printed_c = some out) : zMi l ({ cls := "ChanceArena", name := "character", desc := "(I)I" } : Jvm.MethodName) (zW (Jvm.Cond.code ({ cls := "ChanceArena", name := "character", desc := "(I)I" } : Jvm.MethodName) prog_1_method_27_code (2 : Nat) (Option.some Jvm.ClassFile.FieldType.int))) { frames := 0, cells := 0, slots := 0, locals := 0 } [.ref h0, .int l1] D tA [(h0, .inr (0, f0_h0)), (h0_printed, .inl (tA 2, h0_printed_n, .inl h0_printed_c))] sz (fun (r9 : Int32) (u9 : Unit) => r9 = out) (fun (u9 : Unit) => [(h0, .inr (0, f0_h0)), (h0_printed, .inl (tA 2, h0_printed_n, .inl h0_printed_c))]) 0 0 := by
  refine zOpen (l := l) (y := ({ cls := "ChanceArena", name := "character", desc := "(I)I" } : Jvm.MethodName)) (ws := zW (Jvm.Cond.code ({ cls := "ChanceArena", name := "character", desc := "(I)I" } : Jvm.MethodName) prog_1_method_27_code (2 : Nat) (Option.some Jvm.ClassFile.FieldType.int))) (rm := { frames := 0, cells := 0, slots := 0, locals := 0 }) (av := [.ref h0, .int l1]) (D := D) (tA := tA) (W0 := [(h0, .inr (0, f0_h0)), (h0_printed, .inl (tA 2, h0_printed_n, .inl h0_printed_c))]) (Wm := [(h0, .inr (0, f0_h0)), (h0_printed, .inl (tA 2, h0_printed_n, .inl h0_printed_c))]) (sz := sz) (mc := 0) (ms := 0) (fun A => va_Qi (fun (r9 : Int32) (u9 : Unit) => r9 = out) (zPost D A (fun (u9 : Unit) => [(h0, .inr (0, f0_h0)), (h0_printed, .inl (tA 2, h0_printed_n, .inl h0_printed_c))])) A) (lv := [(0, .ref h0), (1, .int l1)]) (by decide) rfl (Nat.le_of_ble_eq_true rfl) rfl ?_
  intro p e s m below meth c A ls hx hb hr hml hh hg hown hlocks hnm hK hA hP hD0 hAw hS hl
  have hD := zD hD0 hAw
  exact b_CA_character_0 hx hb hr hml hh hg hown hlocks hK hA    _ _ _ hF q_h0_printed q_h0_printedLength hP hD hS hl
def f_MM_thrown (h0_thrown : Int32) : Option (Int32) := some (h0_thrown)
set_option maxHeartbeats 4000000 in
set_option maxRecDepth 100000 in
theorem b_MM_thrown_0 {p : Program} {l : Launch} {e : Env} {s : State} {m : MethodId} {args : Array Value} {below : List Frame} {meth : Method} {c : Code} {D : va_G} {tA : Nat → ClassId} {A : Nat → Prop} {h0 : Nat} {f0_h0 : List Value} {h0_thrown : Int32} {out : Int32} (hx : p.tables.exec = Jvm.exec) (hb : c.code = prog_15_method_2_code) (hr : meth.sig.returnType = (Option.some Jvm.ClassFile.FieldType.int)) (hml : c.maxLocals = 1) (hh : zH s) (hg : ∀ w ∈ lw_R, w.before args s = true) (hown : s.vm.findClass "ChanceArenaModel" = some m.cls) (hlocks : meth.locks = false) (hK : va_K D vwCl (zT tA) s) (hA : ∀ q, s.heap.size ≤ q → A q)  : ∀ (H : Heap) (locs : List Loc) (ls : Array Slot), f_MM_thrown h0_thrown = some out → f0_h0[0]? = some (.int h0_thrown) → va_P D vwCl [(h0, .inr (13, f0_h0))] H → va_D A [(h0, .inr (13, f0_h0))] → va_S A s.heap H locs → lv_has ls 1 [(0, .ref h0)] → W p l e { frames := 0, cells := 0, slots := 0, locals := 0 } s m args below meth c H locs 0 0 (MQ below (va_Qi (fun (r9 : Int32) (u9 : Unit) => r9 = out) (zPost D A (fun (u9 : Unit) => [(h0, .inr (13, f0_h0))])) A) args s 0 0 A) (F0 m 0 ls []) := by
  intro    H locs ls hF q_h0_thrown hP hD hS hl
  replace hF : ((some (h0_thrown)) : Option (Int32)) = some out := hF
  refine lv_aload_n hx hb d_MM_thrown_0 rfl (lv_at hl 0 rfl) ?_
  refine va_get (D := D) (ci := 13) (v := .int h0_thrown) (C := R_MM) (T := T_MM) (N := 49) hx hb hg i_MM hown hK hP 0 rfl rfl 0 (by decide) (hg _ k10_46) (fun _ h9 => h9) q_h0_thrown d_MM_thrown_1 ?_
  replace hF := Option.some.inj hF
  subst hF
  exact zZret (post := (fun (r9 : Int32) (u9 : Unit) => r9 = h0_thrown)) (W1 := (fun (u9 : Unit) => [(h0, .inr (13, f0_h0))])) (v := h0_thrown) hx hb hr rfl hlocks hP hD hS () rfl rfl d_MM_thrown_4
set_option maxHeartbeats 4000000 in
set_option maxRecDepth 100000 in
theorem m_MM_thrown (l : Launch) (D : va_G) (tA : Nat → ClassId) (sz : Nat) (h0 : Nat) (f0_h0 : List Value) (h0_thrown : Int32) (q_h0_thrown : f0_h0[0]? = some (.int h0_thrown)) (out : Int32) (hF : f_MM_thrown h0_thrown = some out) : zMi l ({ cls := "ChanceArenaModel", name := "thrown", desc := "()I" } : Jvm.MethodName) (zW (Jvm.Cond.code ({ cls := "ChanceArenaModel", name := "thrown", desc := "()I" } : Jvm.MethodName) prog_15_method_2_code (1 : Nat) (Option.some Jvm.ClassFile.FieldType.int))) { frames := 0, cells := 0, slots := 0, locals := 0 } [.ref h0] D tA [(h0, .inr (13, f0_h0))] sz (fun (r9 : Int32) (u9 : Unit) => r9 = out) (fun (u9 : Unit) => [(h0, .inr (13, f0_h0))]) 0 0 := by
  refine zOpen (l := l) (y := ({ cls := "ChanceArenaModel", name := "thrown", desc := "()I" } : Jvm.MethodName)) (ws := zW (Jvm.Cond.code ({ cls := "ChanceArenaModel", name := "thrown", desc := "()I" } : Jvm.MethodName) prog_15_method_2_code (1 : Nat) (Option.some Jvm.ClassFile.FieldType.int))) (rm := { frames := 0, cells := 0, slots := 0, locals := 0 }) (av := [.ref h0]) (D := D) (tA := tA) (W0 := [(h0, .inr (13, f0_h0))]) (Wm := [(h0, .inr (13, f0_h0))]) (sz := sz) (mc := 0) (ms := 0) (fun A => va_Qi (fun (r9 : Int32) (u9 : Unit) => r9 = out) (zPost D A (fun (u9 : Unit) => [(h0, .inr (13, f0_h0))])) A) (lv := [(0, .ref h0)]) (by decide) rfl (Nat.le_of_ble_eq_true rfl) rfl ?_
  intro p e s m below meth c A ls hx hb hr hml hh hg hown hlocks hnm hK hA hP hD0 hAw hS hl
  have hD := zD hD0 hAw
  exact b_MM_thrown_0 hx hb hr hml hh hg hown hlocks hK hA    _ _ _ hF q_h0_thrown hP hD hS hl
def f_MM_end (l1 : Int32) (h0_thrown : Int32) (h0_tape_size : Int32) : Option (Int32 × Int32 × Int32) := if (l1 : Int32) < 0 then some (0, 1, h0_tape_size) else if (20 : Int32) < l1 then some (0, 1, h0_tape_size) else if (20 : Int32) ≤ h0_tape_size then some (((h0_tape_size - 20) + l1), 0, ((h0_tape_size - 20) + l1)) else some (0, 1, h0_tape_size)
set_option maxHeartbeats 4000000 in
set_option maxRecDepth 100000 in
theorem b_MM_end_0 {p : Program} {l : Launch} {e : Env} {s : State} {m : MethodId} {args : Array Value} {below : List Frame} {meth : Method} {c : Code} {D : va_G} {tA : Nat → ClassId} {A : Nat → Prop} {h0 h0_tape : Nat} {f0_h0 f0_h0_tape : List Value} {l1 : Int32} {h0_thrown : Int32} {h0_tape_size : Int32} {out : Int32 × Int32 × Int32} (hx : p.tables.exec = Jvm.exec) (hb : c.code = prog_15_method_5_code) (hr : meth.sig.returnType = (Option.some Jvm.ClassFile.FieldType.int)) (hml : c.maxLocals = 2) (hh : zH s) (hg : ∀ w ∈ lw_R, w.before args s = true) (hown : s.vm.findClass "ChanceArenaModel" = some m.cls) (hlocks : meth.locks = false) (hK : va_K D vwCl (zT tA) s) (hA : ∀ q, s.heap.size ≤ q → A q)  : ∀ (f_h0 : List Value) (f_h0_tape : List Value) (H : Heap) (locs : List Loc) (ls : Array Slot), f_MM_end l1 h0_thrown h0_tape_size = some out → f_h0[1]? = some (.ref h0_tape) → f_h0[0]? = some (.int h0_thrown) → Fr [0] f0_h0 f_h0 → f_h0_tape[1]? = some (.int h0_tape_size) → Fr [1] f0_h0_tape f_h0_tape → va_P D vwCl [(h0, .inr (13, f_h0)), (h0_tape, .inr (14, f_h0_tape))] H → va_D A [(h0, .inr (13, f_h0)), (h0_tape, .inr (14, f_h0_tape))] → va_S A s.heap H locs → lv_has ls 2 [(0, .ref h0), (1, .int l1)] → W p l e { frames := 0, cells := 0, slots := 0, locals := 0 } s m args below meth c H locs 0 0 (MQ below (va_Qi (fun (r9 : Int32) (u9 : List Value × List Value) => r9 = out.1 ∧ Fr [0] f0_h0 u9.1 ∧ u9.1[0]? = some (.int out.2.1) ∧ Fr [1] f0_h0_tape u9.2 ∧ u9.2[1]? = some (.int out.2.2)) (zPost D A (fun (u9 : List Value × List Value) => [(h0, .inr (13, u9.1)), (h0_tape, .inr (14, u9.2))])) A) args s 0 0 A) (F0 m 0 ls []) := by
  intro   f_h0 f_h0_tape H locs ls hF q_h0_tape q_h0_thrown r_h0 q_h0_tape_size r_h0_tape hP hD hS hl
  replace hF : ((if (l1 : Int32) < 0 then some (0, 1, h0_tape_size) else if (20 : Int32) < l1 then some (0, 1, h0_tape_size) else if (20 : Int32) ≤ h0_tape_size then some (((h0_tape_size - 20) + l1), 0, ((h0_tape_size - 20) + l1)) else some (0, 1, h0_tape_size)) : Option (Int32 × Int32 × Int32)) = some out := hF
  refine lv_aload_n hx hb d_MM_end_0 rfl (lv_at hl 0 rfl) ?_
  refine lv_iload_n hx hb d_MM_end_1 rfl (lv_at hl 1 rfl) ?_
  refine lv_if_lt (tgt := 23) hx hb d_MM_end_2 (by decide) (fun c9 => ?_) (fun c9 => ?_)
  · replace hF := ifp c9 hF
    refine lv_iconst (v := 1) hx hb d_MM_end_23 (by decide) ?_
    refine lv_goto (tgt := 28) hx hb d_MM_end_24 (by decide) ?_
    refine va_put (D := D) (ci := 13) (v := .int 1) (ty := .int) (C := R_MM) (T := T_MM) (N := 49) hx hb hg i_MM t_MM o_MM n_MM hown hK hP hD hS 0 rfl rfl 0 (by decide) (hg _ k10_46) (fun _ h9 => h9) rfl (by decide +kernel) rfl rfl (zLen q_h0_thrown) d_MM_end_28 (fun H1 locs1 hP1 hD1 hS1 => ?_)
    clear hP hD hS
    replace hP1 : va_P D vwCl [(h0, .inr (13, f_h0.set 0 (.int 1))), (h0_tape, .inr (14, f_h0_tape))] _ := hP1
    replace hD1 : va_D A [(h0, .inr (13, f_h0.set 0 (.int 1))), (h0_tape, .inr (14, f_h0_tape))] := hD1
    refine lv_aload_n hx hb d_MM_end_31 rfl (lv_at hl 0 rfl) ?_
    refine va_get (D := D) (ci := 13) (v := .int 1) (C := R_MM) (T := T_MM) (N := 49) hx hb hg i_MM hown hK hP1 0 rfl rfl 0 (by decide) (hg _ k10_46) (fun _ h9 => h9) (zSetS q_h0_thrown) d_MM_end_32 ?_
    refine lv_if_le (tgt := 40) hx hb d_MM_end_35 (by decide) (fun c9 => absurd c9 (by decide)) (fun _ => ?_)
    refine lv_iconst (v := 0) hx hb d_MM_end_38 (by decide) ?_
    replace hF := Option.some.inj hF
    subst hF
    exact zZret (post := (fun (r9 : Int32) (u9 : List Value × List Value) => r9 = (0, 1, h0_tape_size).1 ∧ Fr [0] f0_h0 u9.1 ∧ u9.1[0]? = some (.int ((0, 1, h0_tape_size).2.1)) ∧ Fr [1] f0_h0_tape u9.2 ∧ u9.2[1]? = some (.int ((0, 1, h0_tape_size).2.2)))) (W1 := (fun (u9 : List Value × List Value) => [(h0, .inr (13, u9.1)), (h0_tape, .inr (14, u9.2))])) (v := 0) hx hb hr rfl hlocks hP1 hD1 hS1 (f_h0.set 0 (.int 1), f_h0_tape) ⟨rfl, (Fr.set r_h0 (by decide)), (zSetS q_h0_thrown), r_h0_tape, q_h0_tape_size⟩ rfl d_MM_end_39
  · replace hF := ifn c9 hF
    refine lv_iload_n hx hb d_MM_end_5 rfl (lv_at hl 1 rfl) ?_
    refine lv_bipush (v := 20) hx hb d_MM_end_6 (by decide) ?_
    refine lv_icmp_gt (tgt := 23) hx hb d_MM_end_8 (by decide) (fun c9 => ?_) (fun c9 => ?_)
    · replace hF := ifp c9 hF
      refine lv_iconst (v := 1) hx hb d_MM_end_23 (by decide) ?_
      refine lv_goto (tgt := 28) hx hb d_MM_end_24 (by decide) ?_
      refine va_put (D := D) (ci := 13) (v := .int 1) (ty := .int) (C := R_MM) (T := T_MM) (N := 49) hx hb hg i_MM t_MM o_MM n_MM hown hK hP hD hS 0 rfl rfl 0 (by decide) (hg _ k10_46) (fun _ h9 => h9) rfl (by decide +kernel) rfl rfl (zLen q_h0_thrown) d_MM_end_28 (fun H1 locs1 hP1 hD1 hS1 => ?_)
      clear hP hD hS
      replace hP1 : va_P D vwCl [(h0, .inr (13, f_h0.set 0 (.int 1))), (h0_tape, .inr (14, f_h0_tape))] _ := hP1
      replace hD1 : va_D A [(h0, .inr (13, f_h0.set 0 (.int 1))), (h0_tape, .inr (14, f_h0_tape))] := hD1
      refine lv_aload_n hx hb d_MM_end_31 rfl (lv_at hl 0 rfl) ?_
      refine va_get (D := D) (ci := 13) (v := .int 1) (C := R_MM) (T := T_MM) (N := 49) hx hb hg i_MM hown hK hP1 0 rfl rfl 0 (by decide) (hg _ k10_46) (fun _ h9 => h9) (zSetS q_h0_thrown) d_MM_end_32 ?_
      refine lv_if_le (tgt := 40) hx hb d_MM_end_35 (by decide) (fun c9 => absurd c9 (by decide)) (fun _ => ?_)
      refine lv_iconst (v := 0) hx hb d_MM_end_38 (by decide) ?_
      replace hF := Option.some.inj hF
      subst hF
      exact zZret (post := (fun (r9 : Int32) (u9 : List Value × List Value) => r9 = (0, 1, h0_tape_size).1 ∧ Fr [0] f0_h0 u9.1 ∧ u9.1[0]? = some (.int ((0, 1, h0_tape_size).2.1)) ∧ Fr [1] f0_h0_tape u9.2 ∧ u9.2[1]? = some (.int ((0, 1, h0_tape_size).2.2)))) (W1 := (fun (u9 : List Value × List Value) => [(h0, .inr (13, u9.1)), (h0_tape, .inr (14, u9.2))])) (v := 0) hx hb hr rfl hlocks hP1 hD1 hS1 (f_h0.set 0 (.int 1), f_h0_tape) ⟨rfl, (Fr.set r_h0 (by decide)), (zSetS q_h0_thrown), r_h0_tape, q_h0_tape_size⟩ rfl d_MM_end_39
    · replace hF := ifn c9 hF
      refine lv_aload_n hx hb d_MM_end_11 rfl (lv_at hl 0 rfl) ?_
      refine va_get (D := D) (ci := 13) (v := .ref h0_tape) (C := R_MM) (T := T_MM) (N := 49) hx hb hg i_MM hown hK hP 0 rfl rfl 1 (by decide) (hg _ k10_47) (fun _ h9 => h9) q_h0_tape d_MM_end_12 ?_
      refine va_getN (D := D) (ci := 14) (v := .int h0_tape_size) (C := R_MN) (T := T_MN) (N := 2) hx hb hg i_MN hown hK hP 1 rfl rfl 1 (by decide) (hg _ k8_215) (fun _ h9 => h9) q_h0_tape_size d_MM_end_15 ?_
      refine lv_bipush (v := 20) hx hb d_MM_end_18 (by decide) ?_
      refine lv_icmp_ge (tgt := 27) hx hb d_MM_end_20 (by decide) (fun c9 => ?_) (fun c9 => ?_)
      · replace hF := ifp c9 hF
        refine lv_iconst (v := 0) hx hb d_MM_end_27 (by decide) ?_
        refine va_put (D := D) (ci := 13) (v := .int 0) (ty := .int) (C := R_MM) (T := T_MM) (N := 49) hx hb hg i_MM t_MM o_MM n_MM hown hK hP hD hS 0 rfl rfl 0 (by decide) (hg _ k10_46) (fun _ h9 => h9) rfl (by decide +kernel) rfl rfl (zLen q_h0_thrown) d_MM_end_28 (fun H1 locs1 hP1 hD1 hS1 => ?_)
        clear hP hD hS
        replace hP1 : va_P D vwCl [(h0, .inr (13, f_h0.set 0 (.int 0))), (h0_tape, .inr (14, f_h0_tape))] _ := hP1
        replace hD1 : va_D A [(h0, .inr (13, f_h0.set 0 (.int 0))), (h0_tape, .inr (14, f_h0_tape))] := hD1
        refine lv_aload_n hx hb d_MM_end_31 rfl (lv_at hl 0 rfl) ?_
        refine va_get (D := D) (ci := 13) (v := .int 0) (C := R_MM) (T := T_MM) (N := 49) hx hb hg i_MM hown hK hP1 0 rfl rfl 0 (by decide) (hg _ k10_46) (fun _ h9 => h9) (zSetS q_h0_thrown) d_MM_end_32 ?_
        refine lv_if_le (tgt := 40) hx hb d_MM_end_35 (by decide) (fun _ => ?_) (fun c9 => absurd (by decide) c9)
        refine lv_aload_n hx hb d_MM_end_40 rfl (lv_at hl 0 rfl) ?_
        refine va_get (D := D) (ci := 13) (v := .ref h0_tape) (C := R_MM) (T := T_MM) (N := 49) hx hb hg i_MM hown hK hP1 0 rfl rfl 1 (by decide) (hg _ k10_47) (fun _ h9 => h9) (zSetN (by decide) q_h0_tape) d_MM_end_41 ?_
        refine lv_aload_n hx hb d_MM_end_44 rfl (lv_at hl 0 rfl) ?_
        refine va_get (D := D) (ci := 13) (v := .ref h0_tape) (C := R_MM) (T := T_MM) (N := 49) hx hb hg i_MM hown hK hP1 0 rfl rfl 1 (by decide) (hg _ k10_47) (fun _ h9 => h9) (zSetN (by decide) q_h0_tape) d_MM_end_45 ?_
        refine va_getN (D := D) (ci := 14) (v := .int h0_tape_size) (C := R_MN) (T := T_MN) (N := 2) hx hb hg i_MN hown hK hP1 1 rfl rfl 1 (by decide) (hg _ k8_215) (fun _ h9 => h9) q_h0_tape_size d_MM_end_48 ?_
        refine lv_bipush (v := 20) hx hb d_MM_end_51 (by decide) ?_
        refine lv_isub hx hb d_MM_end_53 ?_
        refine lv_iload_n hx hb d_MM_end_54 rfl (lv_at hl 1 rfl) ?_
        refine lv_iadd hx hb d_MM_end_55 ?_
        refine va_putN (D := D) (ci := 14) (v := .int ((h0_tape_size - 20) + l1)) (ty := .int) (C := R_MN) (T := T_MN) (N := 2) hx hb hg i_MN t_MN o_MN n_MN hown hK hP1 hD1 hS1 1 rfl rfl 1 (by decide) (hg _ k8_215) (fun _ h9 => h9) rfl (by decide +kernel) rfl rfl (zLen q_h0_tape_size) d_MM_end_56 (fun H2 locs2 hP2 hD2 hS2 => ?_)
        clear hP1 hD1 hS1
        replace hP2 : va_P D vwCl [(h0, .inr (13, f_h0.set 0 (.int 0))), (h0_tape, .inr (14, f_h0_tape.set 1 (.int ((h0_tape_size - 20) + l1))))] _ := hP2
        replace hD2 : va_D A [(h0, .inr (13, f_h0.set 0 (.int 0))), (h0_tape, .inr (14, f_h0_tape.set 1 (.int ((h0_tape_size - 20) + l1))))] := hD2
        refine lv_aload_n hx hb d_MM_end_59 rfl (lv_at hl 0 rfl) ?_
        refine va_get (D := D) (ci := 13) (v := .ref h0_tape) (C := R_MM) (T := T_MM) (N := 49) hx hb hg i_MM hown hK hP2 0 rfl rfl 1 (by decide) (hg _ k10_47) (fun _ h9 => h9) (zSetN (by decide) q_h0_tape) d_MM_end_60 ?_
        refine va_getN (D := D) (ci := 14) (v := .int ((h0_tape_size - 20) + l1)) (C := R_MN) (T := T_MN) (N := 2) hx hb hg i_MN hown hK hP2 1 rfl rfl 1 (by decide) (hg _ k8_215) (fun _ h9 => h9) (zSetS q_h0_tape_size) d_MM_end_63 ?_
        replace hF := Option.some.inj hF
        subst hF
        exact zZret (post := (fun (r9 : Int32) (u9 : List Value × List Value) => r9 = (((h0_tape_size - 20) + l1), 0, ((h0_tape_size - 20) + l1)).1 ∧ Fr [0] f0_h0 u9.1 ∧ u9.1[0]? = some (.int ((((h0_tape_size - 20) + l1), 0, ((h0_tape_size - 20) + l1)).2.1)) ∧ Fr [1] f0_h0_tape u9.2 ∧ u9.2[1]? = some (.int ((((h0_tape_size - 20) + l1), 0, ((h0_tape_size - 20) + l1)).2.2)))) (W1 := (fun (u9 : List Value × List Value) => [(h0, .inr (13, u9.1)), (h0_tape, .inr (14, u9.2))])) (v := ((h0_tape_size - 20) + l1)) hx hb hr rfl hlocks hP2 hD2 hS2 (f_h0.set 0 (.int 0), f_h0_tape.set 1 (.int ((h0_tape_size - 20) + l1))) ⟨rfl, (Fr.set r_h0 (by decide)), (zSetS q_h0_thrown), (Fr.set r_h0_tape (by decide)), (zSetS q_h0_tape_size)⟩ rfl d_MM_end_66
      · replace hF := ifn c9 hF
        refine lv_iconst (v := 1) hx hb d_MM_end_23 (by decide) ?_
        refine lv_goto (tgt := 28) hx hb d_MM_end_24 (by decide) ?_
        refine va_put (D := D) (ci := 13) (v := .int 1) (ty := .int) (C := R_MM) (T := T_MM) (N := 49) hx hb hg i_MM t_MM o_MM n_MM hown hK hP hD hS 0 rfl rfl 0 (by decide) (hg _ k10_46) (fun _ h9 => h9) rfl (by decide +kernel) rfl rfl (zLen q_h0_thrown) d_MM_end_28 (fun H1 locs1 hP1 hD1 hS1 => ?_)
        clear hP hD hS
        replace hP1 : va_P D vwCl [(h0, .inr (13, f_h0.set 0 (.int 1))), (h0_tape, .inr (14, f_h0_tape))] _ := hP1
        replace hD1 : va_D A [(h0, .inr (13, f_h0.set 0 (.int 1))), (h0_tape, .inr (14, f_h0_tape))] := hD1
        refine lv_aload_n hx hb d_MM_end_31 rfl (lv_at hl 0 rfl) ?_
        refine va_get (D := D) (ci := 13) (v := .int 1) (C := R_MM) (T := T_MM) (N := 49) hx hb hg i_MM hown hK hP1 0 rfl rfl 0 (by decide) (hg _ k10_46) (fun _ h9 => h9) (zSetS q_h0_thrown) d_MM_end_32 ?_
        refine lv_if_le (tgt := 40) hx hb d_MM_end_35 (by decide) (fun c9 => absurd c9 (by decide)) (fun _ => ?_)
        refine lv_iconst (v := 0) hx hb d_MM_end_38 (by decide) ?_
        replace hF := Option.some.inj hF
        subst hF
        exact zZret (post := (fun (r9 : Int32) (u9 : List Value × List Value) => r9 = (0, 1, h0_tape_size).1 ∧ Fr [0] f0_h0 u9.1 ∧ u9.1[0]? = some (.int ((0, 1, h0_tape_size).2.1)) ∧ Fr [1] f0_h0_tape u9.2 ∧ u9.2[1]? = some (.int ((0, 1, h0_tape_size).2.2)))) (W1 := (fun (u9 : List Value × List Value) => [(h0, .inr (13, u9.1)), (h0_tape, .inr (14, u9.2))])) (v := 0) hx hb hr rfl hlocks hP1 hD1 hS1 (f_h0.set 0 (.int 1), f_h0_tape) ⟨rfl, (Fr.set r_h0 (by decide)), (zSetS q_h0_thrown), r_h0_tape, q_h0_tape_size⟩ rfl d_MM_end_39
set_option maxHeartbeats 4000000 in
set_option maxRecDepth 100000 in
theorem m_MM_end (l : Launch) (D : va_G) (tA : Nat → ClassId) (sz : Nat) (h0 h0_tape : Nat) (f0_h0 f0_h0_tape : List Value) (l1 : Int32) (h0_thrown : Int32) (h0_tape_size : Int32) (q_h0_tape : f0_h0[1]? = some (.ref h0_tape)) (q_h0_thrown : f0_h0[0]? = some (.int h0_thrown)) (q_h0_tape_size : f0_h0_tape[1]? = some (.int h0_tape_size)) (out : Int32 × Int32 × Int32) (hF : f_MM_end l1 h0_thrown h0_tape_size = some out) : zMi l ({ cls := "ChanceArenaModel", name := "end", desc := "(I)I" } : Jvm.MethodName) (zW (Jvm.Cond.code ({ cls := "ChanceArenaModel", name := "end", desc := "(I)I" } : Jvm.MethodName) prog_15_method_5_code (2 : Nat) (Option.some Jvm.ClassFile.FieldType.int))) { frames := 0, cells := 0, slots := 0, locals := 0 } [.ref h0, .int l1] D tA [(h0, .inr (13, f0_h0)), (h0_tape, .inr (14, f0_h0_tape))] sz (fun (r9 : Int32) (u9 : List Value × List Value) => r9 = out.1 ∧ Fr [0] f0_h0 u9.1 ∧ u9.1[0]? = some (.int out.2.1) ∧ Fr [1] f0_h0_tape u9.2 ∧ u9.2[1]? = some (.int out.2.2)) (fun (u9 : List Value × List Value) => [(h0, .inr (13, u9.1)), (h0_tape, .inr (14, u9.2))]) 0 0 := by
  refine zOpen (l := l) (y := ({ cls := "ChanceArenaModel", name := "end", desc := "(I)I" } : Jvm.MethodName)) (ws := zW (Jvm.Cond.code ({ cls := "ChanceArenaModel", name := "end", desc := "(I)I" } : Jvm.MethodName) prog_15_method_5_code (2 : Nat) (Option.some Jvm.ClassFile.FieldType.int))) (rm := { frames := 0, cells := 0, slots := 0, locals := 0 }) (av := [.ref h0, .int l1]) (D := D) (tA := tA) (W0 := [(h0, .inr (13, f0_h0)), (h0_tape, .inr (14, f0_h0_tape))]) (Wm := [(h0, .inr (13, f0_h0)), (h0_tape, .inr (14, f0_h0_tape))]) (sz := sz) (mc := 0) (ms := 0) (fun A => va_Qi (fun (r9 : Int32) (u9 : List Value × List Value) => r9 = out.1 ∧ Fr [0] f0_h0 u9.1 ∧ u9.1[0]? = some (.int out.2.1) ∧ Fr [1] f0_h0_tape u9.2 ∧ u9.2[1]? = some (.int out.2.2)) (zPost D A (fun (u9 : List Value × List Value) => [(h0, .inr (13, u9.1)), (h0_tape, .inr (14, u9.2))])) A) (lv := [(0, .ref h0), (1, .int l1)]) (by decide) rfl (Nat.le_of_ble_eq_true rfl) rfl ?_
  intro p e s m below meth c A ls hx hb hr hml hh hg hown hlocks hnm hK hA hP hD0 hAw hS hl
  have hD := zD hD0 hAw
  exact b_MM_end_0 hx hb hr hml hh hg hown hlocks hK hA   f0_h0 f0_h0_tape _ _ _ hF q_h0_tape q_h0_thrown Fr.rfl q_h0_tape_size Fr.rfl hP hD hS hl
def f_MM_skip (h0_text_all_n : Nat) (l1 : Int32) (h0_text_size : Int32) (h0_text_all_c : Nat → Int32) : Nat → Nat → Int32 → Option (Int32)
  | 0, _, _ => none
  | n + 1, 0, l2 => chk True (f_MM_skip h0_text_all_n l1 h0_text_size h0_text_all_c n 1 l1)
  | n + 1, 1, l2 => if (h0_text_size : Int32) ≤ l2 then some (l2) else Option.bind (f_MM_letter h0_text_all_n l2 h0_text_size h0_text_all_c) (fun o1 => Option.bind (f_MM_isBlank o1) (fun o2 => if ¬ (o2 : Int32) = 0 then Option.bind (f_MM_letter h0_text_all_n l2 h0_text_size h0_text_all_c) (fun o3 => if ¬ (o3 : Int32) = 35 then f_MM_skip h0_text_all_n l1 h0_text_size h0_text_all_c n 1 (l2 + Int32.ofInt 1) else f_MM_skip h0_text_all_n l1 h0_text_size h0_text_all_c n 2 l2) else Option.bind (f_MM_letter h0_text_all_n l2 h0_text_size h0_text_all_c) (fun o4 => if ¬ (o4 : Int32) = 35 then some (l2) else Option.bind (f_MM_letter h0_text_all_n l2 h0_text_size h0_text_all_c) (fun o5 => if ¬ (o5 : Int32) = 35 then f_MM_skip h0_text_all_n l1 h0_text_size h0_text_all_c n 1 (l2 + Int32.ofInt 1) else f_MM_skip h0_text_all_n l1 h0_text_size h0_text_all_c n 2 l2))))
  | n + 1, 2, l2 => if (h0_text_size : Int32) ≤ l2 then f_MM_skip h0_text_all_n l1 h0_text_size h0_text_all_c n 1 l2 else Option.bind (f_MM_letter h0_text_all_n l2 h0_text_size h0_text_all_c) (fun o6 => if (o6 : Int32) = 10 then f_MM_skip h0_text_all_n l1 h0_text_size h0_text_all_c n 1 l2 else f_MM_skip h0_text_all_n l1 h0_text_size h0_text_all_c n 2 (l2 + Int32.ofInt 1))
  | _ + 1, _ + 3, _ => none
theorem e_MM_skip_0 (h0_text_all_n : Nat) (l1 : Int32) (h0_text_size : Int32) (h0_text_all_c : Nat → Int32) (n : Nat) (l2 : Int32) : f_MM_skip h0_text_all_n l1 h0_text_size h0_text_all_c (n + 1) 0 l2 = chk True (f_MM_skip h0_text_all_n l1 h0_text_size h0_text_all_c n 1 l1) := by rw [f_MM_skip]
theorem e_MM_skip_1 (h0_text_all_n : Nat) (l1 : Int32) (h0_text_size : Int32) (h0_text_all_c : Nat → Int32) (n : Nat) (l2 : Int32) : f_MM_skip h0_text_all_n l1 h0_text_size h0_text_all_c (n + 1) 1 l2 = if (h0_text_size : Int32) ≤ l2 then some (l2) else Option.bind (f_MM_letter h0_text_all_n l2 h0_text_size h0_text_all_c) (fun o1 => Option.bind (f_MM_isBlank o1) (fun o2 => if ¬ (o2 : Int32) = 0 then Option.bind (f_MM_letter h0_text_all_n l2 h0_text_size h0_text_all_c) (fun o3 => if ¬ (o3 : Int32) = 35 then f_MM_skip h0_text_all_n l1 h0_text_size h0_text_all_c n 1 (l2 + Int32.ofInt 1) else f_MM_skip h0_text_all_n l1 h0_text_size h0_text_all_c n 2 l2) else Option.bind (f_MM_letter h0_text_all_n l2 h0_text_size h0_text_all_c) (fun o4 => if ¬ (o4 : Int32) = 35 then some (l2) else Option.bind (f_MM_letter h0_text_all_n l2 h0_text_size h0_text_all_c) (fun o5 => if ¬ (o5 : Int32) = 35 then f_MM_skip h0_text_all_n l1 h0_text_size h0_text_all_c n 1 (l2 + Int32.ofInt 1) else f_MM_skip h0_text_all_n l1 h0_text_size h0_text_all_c n 2 l2)))) := by rw [f_MM_skip]
theorem e_MM_skip_2 (h0_text_all_n : Nat) (l1 : Int32) (h0_text_size : Int32) (h0_text_all_c : Nat → Int32) (n : Nat) (l2 : Int32) : f_MM_skip h0_text_all_n l1 h0_text_size h0_text_all_c (n + 1) 2 l2 = if (h0_text_size : Int32) ≤ l2 then f_MM_skip h0_text_all_n l1 h0_text_size h0_text_all_c n 1 l2 else Option.bind (f_MM_letter h0_text_all_n l2 h0_text_size h0_text_all_c) (fun o6 => if (o6 : Int32) = 10 then f_MM_skip h0_text_all_n l1 h0_text_size h0_text_all_c n 1 l2 else f_MM_skip h0_text_all_n l1 h0_text_size h0_text_all_c n 2 (l2 + Int32.ofInt 1)) := by rw [f_MM_skip]
theorem z_MM_skip (h0_text_all_n : Nat) (l1 : Int32) (h0_text_size : Int32) (h0_text_all_c : Nat → Int32) (h : Nat) (l2 : Int32) : f_MM_skip h0_text_all_n l1 h0_text_size h0_text_all_c 0 h l2 = none := by rw [f_MM_skip]
set_option maxHeartbeats 4000000 in
set_option maxRecDepth 100000 in
theorem b_MM_skip_0 {p : Program} {l : Launch} {e : Env} {s : State} {m : MethodId} {args : Array Value} {below : List Frame} {meth : Method} {c : Code} {D : va_G} {tA : Nat → ClassId} {A : Nat → Prop} {h0 h0_text h0_text_all : Nat} {f0_h0 f0_h0_text : List Value} {h0_text_all_n : Nat} {l1 : Int32} {h0_text_size : Int32} {h0_text_all_c : Nat → Int32} {out : Int32} (hx : p.tables.exec = Jvm.exec) (hb : c.code = prog_15_method_10_code) (hr : meth.sig.returnType = (Option.some Jvm.ClassFile.FieldType.int)) (hml : c.maxLocals = 3) (hh : zH s) (hg : ∀ w ∈ lw_R, w.before args s = true) (hown : s.vm.findClass "ChanceArenaModel" = some m.cls) (hlocks : meth.locks = false) (hK : va_K D vwCl (zT tA) s) (hA : ∀ q, s.heap.size ≤ q → A q) {n : Nat} (ih1 : ∀ (l2 : Int32) (H : Heap) (locs : List Loc) (ls : Array Slot), f_MM_skip h0_text_all_n l1 h0_text_size h0_text_all_c n 1 l2 = some out → f0_h0[2]? = some (.ref h0_text) → f0_h0_text[0]? = some (.ref h0_text_all) → f0_h0_text[1]? = some (.int h0_text_size) → va_P D vwCl [(h0, .inr (13, f0_h0)), (h0_text, .inr (14, f0_h0_text)), (h0_text_all, .inl (tA 0, h0_text_all_n, .inl h0_text_all_c))] H → va_D A [(h0, .inr (13, f0_h0)), (h0_text, .inr (14, f0_h0_text)), (h0_text_all, .inl (tA 0, h0_text_all_n, .inl h0_text_all_c))] → va_S A s.heap H locs → lv_has ls 3 [(0, .ref h0), (1, .int l1), (2, .int l2)] → W p l e { frames := 2, cells := 0, slots := 0, locals := 42 } s m args below meth c H locs 0 0 (MQ below (va_Qi (fun (r9 : Int32) (u9 : Unit) => r9 = out) (zPost D A (fun (u9 : Unit) => [(h0, .inr (13, f0_h0)), (h0_text, .inr (14, f0_h0_text)), (h0_text_all, .inl (tA 0, h0_text_all_n, .inl h0_text_all_c))])) A) args s 0 0 A) (F0 m 2 ls [])) : ∀ (l2 : Int32) (H : Heap) (locs : List Loc) (ls : Array Slot), f_MM_skip h0_text_all_n l1 h0_text_size h0_text_all_c (n + 1) 0 l2 = some out → f0_h0[2]? = some (.ref h0_text) → f0_h0_text[0]? = some (.ref h0_text_all) → f0_h0_text[1]? = some (.int h0_text_size) → va_P D vwCl [(h0, .inr (13, f0_h0)), (h0_text, .inr (14, f0_h0_text)), (h0_text_all, .inl (tA 0, h0_text_all_n, .inl h0_text_all_c))] H → va_D A [(h0, .inr (13, f0_h0)), (h0_text, .inr (14, f0_h0_text)), (h0_text_all, .inl (tA 0, h0_text_all_n, .inl h0_text_all_c))] → va_S A s.heap H locs → lv_has ls 3 [(0, .ref h0), (1, .int l1)] → W p l e { frames := 2, cells := 0, slots := 0, locals := 42 } s m args below meth c H locs 0 0 (MQ below (va_Qi (fun (r9 : Int32) (u9 : Unit) => r9 = out) (zPost D A (fun (u9 : Unit) => [(h0, .inr (13, f0_h0)), (h0_text, .inr (14, f0_h0_text)), (h0_text_all, .inl (tA 0, h0_text_all_n, .inl h0_text_all_c))])) A) args s 0 0 A) (F0 m 0 ls []) := by
  intro l2   H locs ls hF q_h0_text q_h0_text_all q_h0_text_size hP hD hS hl
  rw [e_MM_skip_0] at hF
  obtain ⟨_, hF⟩ := chk_some hF
  refine lv_iload_n hx hb d_MM_skip_0 rfl (lv_at hl 1 rfl) ?_
  refine lv_istore_n (lv' := [(2, .int l1), (0, .ref h0), (1, .int l1)]) hx hb d_MM_skip_1 rfl hl (by decide) rfl (fun ls hl => ?_)
  exact ih1 l1   _ _ _ hF q_h0_text q_h0_text_all q_h0_text_size hP hD hS (lv_sub hl [1, 2, 0] rfl)
set_option maxHeartbeats 4000000 in
set_option maxRecDepth 100000 in
theorem b_MM_skip_1 {p : Program} {l : Launch} {e : Env} {s : State} {m : MethodId} {args : Array Value} {below : List Frame} {meth : Method} {c : Code} {D : va_G} {tA : Nat → ClassId} {A : Nat → Prop} {h0 h0_text h0_text_all : Nat} {f0_h0 f0_h0_text : List Value} {h0_text_all_n : Nat} {l1 : Int32} {h0_text_size : Int32} {h0_text_all_c : Nat → Int32} {out : Int32} (hx : p.tables.exec = Jvm.exec) (hb : c.code = prog_15_method_10_code) (hr : meth.sig.returnType = (Option.some Jvm.ClassFile.FieldType.int)) (hml : c.maxLocals = 3) (hh : zH s) (hg : ∀ w ∈ lw_R, w.before args s = true) (hown : s.vm.findClass "ChanceArenaModel" = some m.cls) (hlocks : meth.locks = false) (hK : va_K D vwCl (zT tA) s) (hA : ∀ q, s.heap.size ≤ q → A q) {n : Nat} (ih1 : ∀ (l2 : Int32) (H : Heap) (locs : List Loc) (ls : Array Slot), f_MM_skip h0_text_all_n l1 h0_text_size h0_text_all_c n 1 l2 = some out → f0_h0[2]? = some (.ref h0_text) → f0_h0_text[0]? = some (.ref h0_text_all) → f0_h0_text[1]? = some (.int h0_text_size) → va_P D vwCl [(h0, .inr (13, f0_h0)), (h0_text, .inr (14, f0_h0_text)), (h0_text_all, .inl (tA 0, h0_text_all_n, .inl h0_text_all_c))] H → va_D A [(h0, .inr (13, f0_h0)), (h0_text, .inr (14, f0_h0_text)), (h0_text_all, .inl (tA 0, h0_text_all_n, .inl h0_text_all_c))] → va_S A s.heap H locs → lv_has ls 3 [(0, .ref h0), (1, .int l1), (2, .int l2)] → W p l e { frames := 2, cells := 0, slots := 0, locals := 42 } s m args below meth c H locs 0 0 (MQ below (va_Qi (fun (r9 : Int32) (u9 : Unit) => r9 = out) (zPost D A (fun (u9 : Unit) => [(h0, .inr (13, f0_h0)), (h0_text, .inr (14, f0_h0_text)), (h0_text_all, .inl (tA 0, h0_text_all_n, .inl h0_text_all_c))])) A) args s 0 0 A) (F0 m 2 ls [])) (ih2 : ∀ (l2 : Int32) (H : Heap) (locs : List Loc) (ls : Array Slot), f_MM_skip h0_text_all_n l1 h0_text_size h0_text_all_c n 2 l2 = some out → f0_h0[2]? = some (.ref h0_text) → f0_h0_text[0]? = some (.ref h0_text_all) → f0_h0_text[1]? = some (.int h0_text_size) → va_P D vwCl [(h0, .inr (13, f0_h0)), (h0_text, .inr (14, f0_h0_text)), (h0_text_all, .inl (tA 0, h0_text_all_n, .inl h0_text_all_c))] H → va_D A [(h0, .inr (13, f0_h0)), (h0_text, .inr (14, f0_h0_text)), (h0_text_all, .inl (tA 0, h0_text_all_n, .inl h0_text_all_c))] → va_S A s.heap H locs → lv_has ls 3 [(0, .ref h0), (1, .int l1), (2, .int l2)] → W p l e { frames := 2, cells := 0, slots := 0, locals := 42 } s m args below meth c H locs 0 0 (MQ below (va_Qi (fun (r9 : Int32) (u9 : Unit) => r9 = out) (zPost D A (fun (u9 : Unit) => [(h0, .inr (13, f0_h0)), (h0_text, .inr (14, f0_h0_text)), (h0_text_all, .inl (tA 0, h0_text_all_n, .inl h0_text_all_c))])) A) args s 0 0 A) (F0 m 44 ls [])) : ∀ (l2 : Int32) (H : Heap) (locs : List Loc) (ls : Array Slot), f_MM_skip h0_text_all_n l1 h0_text_size h0_text_all_c (n + 1) 1 l2 = some out → f0_h0[2]? = some (.ref h0_text) → f0_h0_text[0]? = some (.ref h0_text_all) → f0_h0_text[1]? = some (.int h0_text_size) → va_P D vwCl [(h0, .inr (13, f0_h0)), (h0_text, .inr (14, f0_h0_text)), (h0_text_all, .inl (tA 0, h0_text_all_n, .inl h0_text_all_c))] H → va_D A [(h0, .inr (13, f0_h0)), (h0_text, .inr (14, f0_h0_text)), (h0_text_all, .inl (tA 0, h0_text_all_n, .inl h0_text_all_c))] → va_S A s.heap H locs → lv_has ls 3 [(0, .ref h0), (1, .int l1), (2, .int l2)] → W p l e { frames := 2, cells := 0, slots := 0, locals := 42 } s m args below meth c H locs 0 0 (MQ below (va_Qi (fun (r9 : Int32) (u9 : Unit) => r9 = out) (zPost D A (fun (u9 : Unit) => [(h0, .inr (13, f0_h0)), (h0_text, .inr (14, f0_h0_text)), (h0_text_all, .inl (tA 0, h0_text_all_n, .inl h0_text_all_c))])) A) args s 0 0 A) (F0 m 2 ls []) := by
  intro l2   H locs ls hF q_h0_text q_h0_text_all q_h0_text_size hP hD hS hl
  rw [e_MM_skip_1] at hF
  refine lv_iload_n hx hb d_MM_skip_2 rfl (lv_at hl 2 rfl) ?_
  refine lv_aload_n hx hb d_MM_skip_3 rfl (lv_at hl 0 rfl) ?_
  refine va_get (D := D) (ci := 13) (v := .ref h0_text) (C := R_MM) (T := T_MM) (N := 49) hx hb hg i_MM hown hK hP 0 rfl rfl 2 (by decide) (hg _ k10_48) (fun _ h9 => h9) q_h0_text d_MM_skip_4 ?_
  refine va_getN (D := D) (ci := 14) (v := .int h0_text_size) (C := R_MN) (T := T_MN) (N := 2) hx hb hg i_MN hown hK hP 1 rfl rfl 1 (by decide) (hg _ k8_215) (fun _ h9 => h9) q_h0_text_size d_MM_skip_7 ?_
  refine lv_icmp_ge (tgt := 77) hx hb d_MM_skip_10 (by decide) (fun c9 => ?_) (fun c9 => ?_)
  · replace hF := ifp c9 hF
    refine lv_iload_n hx hb d_MM_skip_77 rfl (lv_at hl 2 rfl) ?_
    replace hF := Option.some.inj hF
    subst hF
    exact zZret (post := (fun (r9 : Int32) (u9 : Unit) => r9 = l2)) (W1 := (fun (u9 : Unit) => [(h0, .inr (13, f0_h0)), (h0_text, .inr (14, f0_h0_text)), (h0_text_all, .inl (tA 0, h0_text_all_n, .inl h0_text_all_c))])) (v := l2) hx hb hr rfl hlocks hP hD hS () rfl rfl d_MM_skip_78
  · replace hF := ifn c9 hF
    refine lv_aload_n hx hb d_MM_skip_13 rfl (lv_at hl 0 rfl) ?_
    refine lv_iload_n hx hb d_MM_skip_14 rfl (lv_at hl 2 rfl) ?_
    obtain ⟨o1, h1, hF⟩ := bsome hF
    refine zCalli (wc := [(h0, .inr (13, f0_h0)), (h0_text, .inr (14, f0_h0_text)), (h0_text_all, .inl (tA 0, h0_text_all_n, .inl h0_text_all_c))]) (wr := []) hP hD hS hA [0, 1, 2] [] rfl rfl (by decide) (by decide) (va_runV (As := [.int l2]) (rest := []) ⟨hx, hb, hml, hown, hg⟩ (m_MM_letter l D tA _ h0 h0_text h0_text_all f0_h0 f0_h0_text h0_text_all_n l2 h0_text_size h0_text_all_c q_h0_text q_h0_text_all q_h0_text_size o1 h1) (zV 1 hg k10_226 k10_228 ks_MM_letter k1_14 k10_229 rfl rfl (by decide +kernel) ⟨(Nat.le_of_ble_eq_true rfl), (Nat.le_of_ble_eq_true rfl)⟩) (zPreV hh hK hP hD [0, 1, 2] (by decide) rfl (ci := 13) rfl 0 rfl) rfl rfl hl.1 rfl (lv_room (Nat.le_of_ble_eq_true rfl)) d_MM_skip_15 ⟨(Nat.le_of_ble_eq_true rfl), (Nat.le_of_ble_eq_true rfl)⟩) (fun r1 u1 H1 locs1 e1 hP1 hD1 hS1 => ?_)
    clear hP hD hS
    refine W.cs (cells' := 0) (slots' := 0) rfl rfl ?_
    have x1 := e1
    rw [x1]
    replace hP1 : va_P D vwCl [(h0, .inr (13, f0_h0)), (h0_text, .inr (14, f0_h0_text)), (h0_text_all, .inl (tA 0, h0_text_all_n, .inl h0_text_all_c))] _ := hP1
    replace hD1 : va_D A [(h0, .inr (13, f0_h0)), (h0_text, .inr (14, f0_h0_text)), (h0_text_all, .inl (tA 0, h0_text_all_n, .inl h0_text_all_c))] := hD1
    obtain ⟨o2, h2, hF⟩ := bsome hF
    refine zCalli (wc := []) (wr := [(h0, .inr (13, f0_h0)), (h0_text, .inr (14, f0_h0_text)), (h0_text_all, .inl (tA 0, h0_text_all_n, .inl h0_text_all_c))]) hP1 hD1 hS1 hA [] [0, 1, 2] rfl rfl (by decide) (by decide) (va_runS (As := [.int o1]) (rest := []) ⟨hx, hb, hml, hown, hg⟩ (m_MM_isBlank l D tA _   o1  o2 h2) (zVS 1 hg k10_234 k10_235 k1_14 k10_236 rfl rfl (by decide +kernel) ⟨(Nat.le_of_ble_eq_true rfl), (Nat.le_of_ble_eq_true rfl)⟩) (zPreS hh hK hP1 hD1 [] (by decide) rfl) rfl rfl hl.1 rfl (lv_room (Nat.le_of_ble_eq_true rfl)) d_MM_skip_18 ⟨(Nat.le_of_ble_eq_true rfl), (Nat.le_of_ble_eq_true rfl)⟩) (fun r2 u2 H2 locs2 e2 hP2 hD2 hS2 => ?_)
    clear hP1 hD1 hS1
    refine W.cs (cells' := 0) (slots' := 0) rfl rfl ?_
    have x2 := e2
    rw [x2]
    replace hP2 : va_P D vwCl [(h0, .inr (13, f0_h0)), (h0_text, .inr (14, f0_h0_text)), (h0_text_all, .inl (tA 0, h0_text_all_n, .inl h0_text_all_c))] _ := hP2
    replace hD2 : va_D A [(h0, .inr (13, f0_h0)), (h0_text, .inr (14, f0_h0_text)), (h0_text_all, .inl (tA 0, h0_text_all_n, .inl h0_text_all_c))] := hD2
    refine lv_if_ne (tgt := 34) hx hb d_MM_skip_21 (by decide) (fun c9 => ?_) (fun c9 => ?_)
    · replace hF := ifp c9 hF
      refine lv_aload_n hx hb d_MM_skip_34 rfl (lv_at hl 0 rfl) ?_
      refine lv_iload_n hx hb d_MM_skip_35 rfl (lv_at hl 2 rfl) ?_
      obtain ⟨o3, h3, hF⟩ := bsome hF
      refine zCalli (wc := [(h0, .inr (13, f0_h0)), (h0_text, .inr (14, f0_h0_text)), (h0_text_all, .inl (tA 0, h0_text_all_n, .inl h0_text_all_c))]) (wr := []) hP2 hD2 hS2 hA [0, 1, 2] [] rfl rfl (by decide) (by decide) (va_runV (As := [.int l2]) (rest := []) ⟨hx, hb, hml, hown, hg⟩ (m_MM_letter l D tA _ h0 h0_text h0_text_all f0_h0 f0_h0_text h0_text_all_n l2 h0_text_size h0_text_all_c q_h0_text q_h0_text_all q_h0_text_size o3 h3) (zV 1 hg k10_226 k10_228 ks_MM_letter k1_14 k10_229 rfl rfl (by decide +kernel) ⟨(Nat.le_of_ble_eq_true rfl), (Nat.le_of_ble_eq_true rfl)⟩) (zPreV hh hK hP2 hD2 [0, 1, 2] (by decide) rfl (ci := 13) rfl 0 rfl) rfl rfl hl.1 rfl (lv_room (Nat.le_of_ble_eq_true rfl)) d_MM_skip_36 ⟨(Nat.le_of_ble_eq_true rfl), (Nat.le_of_ble_eq_true rfl)⟩) (fun r3 u3 H3 locs3 e3 hP3 hD3 hS3 => ?_)
      clear hP2 hD2 hS2
      refine W.cs (cells' := 0) (slots' := 0) rfl rfl ?_
      have x3 := e3
      rw [x3]
      replace hP3 : va_P D vwCl [(h0, .inr (13, f0_h0)), (h0_text, .inr (14, f0_h0_text)), (h0_text_all, .inl (tA 0, h0_text_all_n, .inl h0_text_all_c))] _ := hP3
      replace hD3 : va_D A [(h0, .inr (13, f0_h0)), (h0_text, .inr (14, f0_h0_text)), (h0_text_all, .inl (tA 0, h0_text_all_n, .inl h0_text_all_c))] := hD3
      refine lv_bipush (v := 35) hx hb d_MM_skip_39 (by decide) ?_
      refine lv_icmp_ne (tgt := 71) hx hb d_MM_skip_41 (by decide) (fun c9 => ?_) (fun c9 => ?_)
      · replace hF := ifp c9 hF
        refine lv_iinc (v := (l2 + Int32.ofInt 1)) (lv' := [(2, .int (l2 + Int32.ofInt 1)), (0, .ref h0), (1, .int l1)]) hx hb d_MM_skip_71 hl (k := 2) rfl rfl (by decide) rfl (fun ls hl => ?_)
        refine lv_goto (tgt := 2) hx hb d_MM_skip_74 (by decide) ?_
        exact ih1 (l2 + Int32.ofInt 1)   _ _ _ hF q_h0_text q_h0_text_all q_h0_text_size hP3 hD3 hS3 (lv_sub hl [1, 2, 0] rfl)
      · replace hF := ifn (fun h9 => h9 c9) hF
        exact ih2 l2   _ _ _ hF q_h0_text q_h0_text_all q_h0_text_size hP3 hD3 hS3 (lv_sub hl [0, 1, 2] rfl)
    · replace hF := ifn (fun h9 => h9 c9) hF
      refine lv_aload_n hx hb d_MM_skip_24 rfl (lv_at hl 0 rfl) ?_
      refine lv_iload_n hx hb d_MM_skip_25 rfl (lv_at hl 2 rfl) ?_
      obtain ⟨o4, h4, hF⟩ := bsome hF
      refine zCalli (wc := [(h0, .inr (13, f0_h0)), (h0_text, .inr (14, f0_h0_text)), (h0_text_all, .inl (tA 0, h0_text_all_n, .inl h0_text_all_c))]) (wr := []) hP2 hD2 hS2 hA [0, 1, 2] [] rfl rfl (by decide) (by decide) (va_runV (As := [.int l2]) (rest := []) ⟨hx, hb, hml, hown, hg⟩ (m_MM_letter l D tA _ h0 h0_text h0_text_all f0_h0 f0_h0_text h0_text_all_n l2 h0_text_size h0_text_all_c q_h0_text q_h0_text_all q_h0_text_size o4 h4) (zV 1 hg k10_226 k10_228 ks_MM_letter k1_14 k10_229 rfl rfl (by decide +kernel) ⟨(Nat.le_of_ble_eq_true rfl), (Nat.le_of_ble_eq_true rfl)⟩) (zPreV hh hK hP2 hD2 [0, 1, 2] (by decide) rfl (ci := 13) rfl 0 rfl) rfl rfl hl.1 rfl (lv_room (Nat.le_of_ble_eq_true rfl)) d_MM_skip_26 ⟨(Nat.le_of_ble_eq_true rfl), (Nat.le_of_ble_eq_true rfl)⟩) (fun r4 u4 H3 locs3 e4 hP3 hD3 hS3 => ?_)
      clear hP2 hD2 hS2
      refine W.cs (cells' := 0) (slots' := 0) rfl rfl ?_
      have x4 := e4
      rw [x4]
      replace hP3 : va_P D vwCl [(h0, .inr (13, f0_h0)), (h0_text, .inr (14, f0_h0_text)), (h0_text_all, .inl (tA 0, h0_text_all_n, .inl h0_text_all_c))] _ := hP3
      replace hD3 : va_D A [(h0, .inr (13, f0_h0)), (h0_text, .inr (14, f0_h0_text)), (h0_text_all, .inl (tA 0, h0_text_all_n, .inl h0_text_all_c))] := hD3
      refine lv_bipush (v := 35) hx hb d_MM_skip_29 (by decide) ?_
      refine lv_icmp_ne (tgt := 77) hx hb d_MM_skip_31 (by decide) (fun c9 => ?_) (fun c9 => ?_)
      · replace hF := ifp c9 hF
        refine lv_iload_n hx hb d_MM_skip_77 rfl (lv_at hl 2 rfl) ?_
        replace hF := Option.some.inj hF
        subst hF
        exact zZret (post := (fun (r9 : Int32) (u9 : Unit) => r9 = l2)) (W1 := (fun (u9 : Unit) => [(h0, .inr (13, f0_h0)), (h0_text, .inr (14, f0_h0_text)), (h0_text_all, .inl (tA 0, h0_text_all_n, .inl h0_text_all_c))])) (v := l2) hx hb hr rfl hlocks hP3 hD3 hS3 () rfl rfl d_MM_skip_78
      · replace hF := ifn (fun h9 => h9 c9) hF
        refine lv_aload_n hx hb d_MM_skip_34 rfl (lv_at hl 0 rfl) ?_
        refine lv_iload_n hx hb d_MM_skip_35 rfl (lv_at hl 2 rfl) ?_
        obtain ⟨o5, h5, hF⟩ := bsome hF
        refine zCalli (wc := [(h0, .inr (13, f0_h0)), (h0_text, .inr (14, f0_h0_text)), (h0_text_all, .inl (tA 0, h0_text_all_n, .inl h0_text_all_c))]) (wr := []) hP3 hD3 hS3 hA [0, 1, 2] [] rfl rfl (by decide) (by decide) (va_runV (As := [.int l2]) (rest := []) ⟨hx, hb, hml, hown, hg⟩ (m_MM_letter l D tA _ h0 h0_text h0_text_all f0_h0 f0_h0_text h0_text_all_n l2 h0_text_size h0_text_all_c q_h0_text q_h0_text_all q_h0_text_size o5 h5) (zV 1 hg k10_226 k10_228 ks_MM_letter k1_14 k10_229 rfl rfl (by decide +kernel) ⟨(Nat.le_of_ble_eq_true rfl), (Nat.le_of_ble_eq_true rfl)⟩) (zPreV hh hK hP3 hD3 [0, 1, 2] (by decide) rfl (ci := 13) rfl 0 rfl) rfl rfl hl.1 rfl (lv_room (Nat.le_of_ble_eq_true rfl)) d_MM_skip_36 ⟨(Nat.le_of_ble_eq_true rfl), (Nat.le_of_ble_eq_true rfl)⟩) (fun r5 u5 H4 locs4 e5 hP4 hD4 hS4 => ?_)
        clear hP3 hD3 hS3
        refine W.cs (cells' := 0) (slots' := 0) rfl rfl ?_
        have x5 := e5
        rw [x5]
        replace hP4 : va_P D vwCl [(h0, .inr (13, f0_h0)), (h0_text, .inr (14, f0_h0_text)), (h0_text_all, .inl (tA 0, h0_text_all_n, .inl h0_text_all_c))] _ := hP4
        replace hD4 : va_D A [(h0, .inr (13, f0_h0)), (h0_text, .inr (14, f0_h0_text)), (h0_text_all, .inl (tA 0, h0_text_all_n, .inl h0_text_all_c))] := hD4
        refine lv_bipush (v := 35) hx hb d_MM_skip_39 (by decide) ?_
        refine lv_icmp_ne (tgt := 71) hx hb d_MM_skip_41 (by decide) (fun c9 => ?_) (fun c9 => ?_)
        · replace hF := ifp c9 hF
          refine lv_iinc (v := (l2 + Int32.ofInt 1)) (lv' := [(2, .int (l2 + Int32.ofInt 1)), (0, .ref h0), (1, .int l1)]) hx hb d_MM_skip_71 hl (k := 2) rfl rfl (by decide) rfl (fun ls hl => ?_)
          refine lv_goto (tgt := 2) hx hb d_MM_skip_74 (by decide) ?_
          exact ih1 (l2 + Int32.ofInt 1)   _ _ _ hF q_h0_text q_h0_text_all q_h0_text_size hP4 hD4 hS4 (lv_sub hl [1, 2, 0] rfl)
        · replace hF := ifn (fun h9 => h9 c9) hF
          exact ih2 l2   _ _ _ hF q_h0_text q_h0_text_all q_h0_text_size hP4 hD4 hS4 (lv_sub hl [0, 1, 2] rfl)
set_option maxHeartbeats 4000000 in
set_option maxRecDepth 100000 in
theorem b_MM_skip_2 {p : Program} {l : Launch} {e : Env} {s : State} {m : MethodId} {args : Array Value} {below : List Frame} {meth : Method} {c : Code} {D : va_G} {tA : Nat → ClassId} {A : Nat → Prop} {h0 h0_text h0_text_all : Nat} {f0_h0 f0_h0_text : List Value} {h0_text_all_n : Nat} {l1 : Int32} {h0_text_size : Int32} {h0_text_all_c : Nat → Int32} {out : Int32} (hx : p.tables.exec = Jvm.exec) (hb : c.code = prog_15_method_10_code) (hr : meth.sig.returnType = (Option.some Jvm.ClassFile.FieldType.int)) (hml : c.maxLocals = 3) (hh : zH s) (hg : ∀ w ∈ lw_R, w.before args s = true) (hown : s.vm.findClass "ChanceArenaModel" = some m.cls) (hlocks : meth.locks = false) (hK : va_K D vwCl (zT tA) s) (hA : ∀ q, s.heap.size ≤ q → A q) {n : Nat} (ih1 : ∀ (l2 : Int32) (H : Heap) (locs : List Loc) (ls : Array Slot), f_MM_skip h0_text_all_n l1 h0_text_size h0_text_all_c n 1 l2 = some out → f0_h0[2]? = some (.ref h0_text) → f0_h0_text[0]? = some (.ref h0_text_all) → f0_h0_text[1]? = some (.int h0_text_size) → va_P D vwCl [(h0, .inr (13, f0_h0)), (h0_text, .inr (14, f0_h0_text)), (h0_text_all, .inl (tA 0, h0_text_all_n, .inl h0_text_all_c))] H → va_D A [(h0, .inr (13, f0_h0)), (h0_text, .inr (14, f0_h0_text)), (h0_text_all, .inl (tA 0, h0_text_all_n, .inl h0_text_all_c))] → va_S A s.heap H locs → lv_has ls 3 [(0, .ref h0), (1, .int l1), (2, .int l2)] → W p l e { frames := 2, cells := 0, slots := 0, locals := 42 } s m args below meth c H locs 0 0 (MQ below (va_Qi (fun (r9 : Int32) (u9 : Unit) => r9 = out) (zPost D A (fun (u9 : Unit) => [(h0, .inr (13, f0_h0)), (h0_text, .inr (14, f0_h0_text)), (h0_text_all, .inl (tA 0, h0_text_all_n, .inl h0_text_all_c))])) A) args s 0 0 A) (F0 m 2 ls [])) (ih2 : ∀ (l2 : Int32) (H : Heap) (locs : List Loc) (ls : Array Slot), f_MM_skip h0_text_all_n l1 h0_text_size h0_text_all_c n 2 l2 = some out → f0_h0[2]? = some (.ref h0_text) → f0_h0_text[0]? = some (.ref h0_text_all) → f0_h0_text[1]? = some (.int h0_text_size) → va_P D vwCl [(h0, .inr (13, f0_h0)), (h0_text, .inr (14, f0_h0_text)), (h0_text_all, .inl (tA 0, h0_text_all_n, .inl h0_text_all_c))] H → va_D A [(h0, .inr (13, f0_h0)), (h0_text, .inr (14, f0_h0_text)), (h0_text_all, .inl (tA 0, h0_text_all_n, .inl h0_text_all_c))] → va_S A s.heap H locs → lv_has ls 3 [(0, .ref h0), (1, .int l1), (2, .int l2)] → W p l e { frames := 2, cells := 0, slots := 0, locals := 42 } s m args below meth c H locs 0 0 (MQ below (va_Qi (fun (r9 : Int32) (u9 : Unit) => r9 = out) (zPost D A (fun (u9 : Unit) => [(h0, .inr (13, f0_h0)), (h0_text, .inr (14, f0_h0_text)), (h0_text_all, .inl (tA 0, h0_text_all_n, .inl h0_text_all_c))])) A) args s 0 0 A) (F0 m 44 ls [])) : ∀ (l2 : Int32) (H : Heap) (locs : List Loc) (ls : Array Slot), f_MM_skip h0_text_all_n l1 h0_text_size h0_text_all_c (n + 1) 2 l2 = some out → f0_h0[2]? = some (.ref h0_text) → f0_h0_text[0]? = some (.ref h0_text_all) → f0_h0_text[1]? = some (.int h0_text_size) → va_P D vwCl [(h0, .inr (13, f0_h0)), (h0_text, .inr (14, f0_h0_text)), (h0_text_all, .inl (tA 0, h0_text_all_n, .inl h0_text_all_c))] H → va_D A [(h0, .inr (13, f0_h0)), (h0_text, .inr (14, f0_h0_text)), (h0_text_all, .inl (tA 0, h0_text_all_n, .inl h0_text_all_c))] → va_S A s.heap H locs → lv_has ls 3 [(0, .ref h0), (1, .int l1), (2, .int l2)] → W p l e { frames := 2, cells := 0, slots := 0, locals := 42 } s m args below meth c H locs 0 0 (MQ below (va_Qi (fun (r9 : Int32) (u9 : Unit) => r9 = out) (zPost D A (fun (u9 : Unit) => [(h0, .inr (13, f0_h0)), (h0_text, .inr (14, f0_h0_text)), (h0_text_all, .inl (tA 0, h0_text_all_n, .inl h0_text_all_c))])) A) args s 0 0 A) (F0 m 44 ls []) := by
  intro l2   H locs ls hF q_h0_text q_h0_text_all q_h0_text_size hP hD hS hl
  rw [e_MM_skip_2] at hF
  refine lv_iload_n hx hb d_MM_skip_44 rfl (lv_at hl 2 rfl) ?_
  refine lv_aload_n hx hb d_MM_skip_45 rfl (lv_at hl 0 rfl) ?_
  refine va_get (D := D) (ci := 13) (v := .ref h0_text) (C := R_MM) (T := T_MM) (N := 49) hx hb hg i_MM hown hK hP 0 rfl rfl 2 (by decide) (hg _ k10_48) (fun _ h9 => h9) q_h0_text d_MM_skip_46 ?_
  refine va_getN (D := D) (ci := 14) (v := .int h0_text_size) (C := R_MN) (T := T_MN) (N := 2) hx hb hg i_MN hown hK hP 1 rfl rfl 1 (by decide) (hg _ k8_215) (fun _ h9 => h9) q_h0_text_size d_MM_skip_49 ?_
  refine lv_icmp_ge (tgt := 2) hx hb d_MM_skip_52 (by decide) (fun c9 => ?_) (fun c9 => ?_)
  · replace hF := ifp c9 hF
    exact ih1 l2   _ _ _ hF q_h0_text q_h0_text_all q_h0_text_size hP hD hS (lv_sub hl [0, 1, 2] rfl)
  · replace hF := ifn c9 hF
    refine lv_aload_n hx hb d_MM_skip_55 rfl (lv_at hl 0 rfl) ?_
    refine lv_iload_n hx hb d_MM_skip_56 rfl (lv_at hl 2 rfl) ?_
    obtain ⟨o6, h6, hF⟩ := bsome hF
    refine zCalli (wc := [(h0, .inr (13, f0_h0)), (h0_text, .inr (14, f0_h0_text)), (h0_text_all, .inl (tA 0, h0_text_all_n, .inl h0_text_all_c))]) (wr := []) hP hD hS hA [0, 1, 2] [] rfl rfl (by decide) (by decide) (va_runV (As := [.int l2]) (rest := []) ⟨hx, hb, hml, hown, hg⟩ (m_MM_letter l D tA _ h0 h0_text h0_text_all f0_h0 f0_h0_text h0_text_all_n l2 h0_text_size h0_text_all_c q_h0_text q_h0_text_all q_h0_text_size o6 h6) (zV 1 hg k10_226 k10_228 ks_MM_letter k1_14 k10_229 rfl rfl (by decide +kernel) ⟨(Nat.le_of_ble_eq_true rfl), (Nat.le_of_ble_eq_true rfl)⟩) (zPreV hh hK hP hD [0, 1, 2] (by decide) rfl (ci := 13) rfl 0 rfl) rfl rfl hl.1 rfl (lv_room (Nat.le_of_ble_eq_true rfl)) d_MM_skip_57 ⟨(Nat.le_of_ble_eq_true rfl), (Nat.le_of_ble_eq_true rfl)⟩) (fun r6 u6 H1 locs1 e6 hP1 hD1 hS1 => ?_)
    clear hP hD hS
    refine W.cs (cells' := 0) (slots' := 0) rfl rfl ?_
    have x6 := e6
    rw [x6]
    replace hP1 : va_P D vwCl [(h0, .inr (13, f0_h0)), (h0_text, .inr (14, f0_h0_text)), (h0_text_all, .inl (tA 0, h0_text_all_n, .inl h0_text_all_c))] _ := hP1
    replace hD1 : va_D A [(h0, .inr (13, f0_h0)), (h0_text, .inr (14, f0_h0_text)), (h0_text_all, .inl (tA 0, h0_text_all_n, .inl h0_text_all_c))] := hD1
    refine lv_bipush (v := 10) hx hb d_MM_skip_60 (by decide) ?_
    refine lv_icmp_eq (tgt := 2) hx hb d_MM_skip_62 (by decide) (fun c9 => ?_) (fun c9 => ?_)
    · replace hF := ifp c9 hF
      exact ih1 l2   _ _ _ hF q_h0_text q_h0_text_all q_h0_text_size hP1 hD1 hS1 (lv_sub hl [0, 1, 2] rfl)
    · replace hF := ifn c9 hF
      refine lv_iinc (v := (l2 + Int32.ofInt 1)) (lv' := [(2, .int (l2 + Int32.ofInt 1)), (0, .ref h0), (1, .int l1)]) hx hb d_MM_skip_65 hl (k := 2) rfl rfl (by decide) rfl (fun ls hl => ?_)
      refine lv_goto (tgt := 44) hx hb d_MM_skip_68 (by decide) ?_
      exact ih2 (l2 + Int32.ofInt 1)   _ _ _ hF q_h0_text q_h0_text_all q_h0_text_size hP1 hD1 hS1 (lv_sub hl [1, 2, 0] rfl)
set_option maxHeartbeats 4000000 in
set_option maxRecDepth 100000 in
theorem a_MM_skip {p : Program} {l : Launch} {e : Env} {s : State} {m : MethodId} {args : Array Value} {below : List Frame} {meth : Method} {c : Code} {D : va_G} {tA : Nat → ClassId} {A : Nat → Prop} {h0 h0_text h0_text_all : Nat} {f0_h0 f0_h0_text : List Value} {h0_text_all_n : Nat} {l1 : Int32} {h0_text_size : Int32} {h0_text_all_c : Nat → Int32} {out : Int32} (hx : p.tables.exec = Jvm.exec) (hb : c.code = prog_15_method_10_code) (hr : meth.sig.returnType = (Option.some Jvm.ClassFile.FieldType.int)) (hml : c.maxLocals = 3) (hh : zH s) (hg : ∀ w ∈ lw_R, w.before args s = true) (hown : s.vm.findClass "ChanceArenaModel" = some m.cls) (hlocks : meth.locks = false) (hK : va_K D vwCl (zT tA) s) (hA : ∀ q, s.heap.size ≤ q → A q) : ∀ n : Nat, (∀ (l2 : Int32) (H : Heap) (locs : List Loc) (ls : Array Slot), f_MM_skip h0_text_all_n l1 h0_text_size h0_text_all_c n 0 l2 = some out → f0_h0[2]? = some (.ref h0_text) → f0_h0_text[0]? = some (.ref h0_text_all) → f0_h0_text[1]? = some (.int h0_text_size) → va_P D vwCl [(h0, .inr (13, f0_h0)), (h0_text, .inr (14, f0_h0_text)), (h0_text_all, .inl (tA 0, h0_text_all_n, .inl h0_text_all_c))] H → va_D A [(h0, .inr (13, f0_h0)), (h0_text, .inr (14, f0_h0_text)), (h0_text_all, .inl (tA 0, h0_text_all_n, .inl h0_text_all_c))] → va_S A s.heap H locs → lv_has ls 3 [(0, .ref h0), (1, .int l1)] → W p l e { frames := 2, cells := 0, slots := 0, locals := 42 } s m args below meth c H locs 0 0 (MQ below (va_Qi (fun (r9 : Int32) (u9 : Unit) => r9 = out) (zPost D A (fun (u9 : Unit) => [(h0, .inr (13, f0_h0)), (h0_text, .inr (14, f0_h0_text)), (h0_text_all, .inl (tA 0, h0_text_all_n, .inl h0_text_all_c))])) A) args s 0 0 A) (F0 m 0 ls [])) ∧ (∀ (l2 : Int32) (H : Heap) (locs : List Loc) (ls : Array Slot), f_MM_skip h0_text_all_n l1 h0_text_size h0_text_all_c n 1 l2 = some out → f0_h0[2]? = some (.ref h0_text) → f0_h0_text[0]? = some (.ref h0_text_all) → f0_h0_text[1]? = some (.int h0_text_size) → va_P D vwCl [(h0, .inr (13, f0_h0)), (h0_text, .inr (14, f0_h0_text)), (h0_text_all, .inl (tA 0, h0_text_all_n, .inl h0_text_all_c))] H → va_D A [(h0, .inr (13, f0_h0)), (h0_text, .inr (14, f0_h0_text)), (h0_text_all, .inl (tA 0, h0_text_all_n, .inl h0_text_all_c))] → va_S A s.heap H locs → lv_has ls 3 [(0, .ref h0), (1, .int l1), (2, .int l2)] → W p l e { frames := 2, cells := 0, slots := 0, locals := 42 } s m args below meth c H locs 0 0 (MQ below (va_Qi (fun (r9 : Int32) (u9 : Unit) => r9 = out) (zPost D A (fun (u9 : Unit) => [(h0, .inr (13, f0_h0)), (h0_text, .inr (14, f0_h0_text)), (h0_text_all, .inl (tA 0, h0_text_all_n, .inl h0_text_all_c))])) A) args s 0 0 A) (F0 m 2 ls [])) ∧ (∀ (l2 : Int32) (H : Heap) (locs : List Loc) (ls : Array Slot), f_MM_skip h0_text_all_n l1 h0_text_size h0_text_all_c n 2 l2 = some out → f0_h0[2]? = some (.ref h0_text) → f0_h0_text[0]? = some (.ref h0_text_all) → f0_h0_text[1]? = some (.int h0_text_size) → va_P D vwCl [(h0, .inr (13, f0_h0)), (h0_text, .inr (14, f0_h0_text)), (h0_text_all, .inl (tA 0, h0_text_all_n, .inl h0_text_all_c))] H → va_D A [(h0, .inr (13, f0_h0)), (h0_text, .inr (14, f0_h0_text)), (h0_text_all, .inl (tA 0, h0_text_all_n, .inl h0_text_all_c))] → va_S A s.heap H locs → lv_has ls 3 [(0, .ref h0), (1, .int l1), (2, .int l2)] → W p l e { frames := 2, cells := 0, slots := 0, locals := 42 } s m args below meth c H locs 0 0 (MQ below (va_Qi (fun (r9 : Int32) (u9 : Unit) => r9 = out) (zPost D A (fun (u9 : Unit) => [(h0, .inr (13, f0_h0)), (h0_text, .inr (14, f0_h0_text)), (h0_text_all, .inl (tA 0, h0_text_all_n, .inl h0_text_all_c))])) A) args s 0 0 A) (F0 m 44 ls [])) := by
  intro n
  induction n with
  | zero => exact ⟨(fun _ _ _ _ hF => by rw [z_MM_skip] at hF; cases hF), (fun _ _ _ _ hF => by rw [z_MM_skip] at hF; cases hF), (fun _ _ _ _ hF => by rw [z_MM_skip] at hF; cases hF)⟩
  | succ n ih =>
    obtain ⟨i0, i1, i2⟩ := ih
    exact ⟨b_MM_skip_0 hx hb hr hml hh hg hown hlocks hK hA i1, b_MM_skip_1 hx hb hr hml hh hg hown hlocks hK hA i1 i2, b_MM_skip_2 hx hb hr hml hh hg hown hlocks hK hA i1 i2⟩
set_option maxHeartbeats 4000000 in
set_option maxRecDepth 100000 in
theorem m_MM_skip (l : Launch) (D : va_G) (tA : Nat → ClassId) (sz : Nat) (h0 h0_text h0_text_all : Nat) (f0_h0 f0_h0_text : List Value) (h0_text_all_n : Nat) (l1 : Int32) (h0_text_size : Int32) (h0_text_all_c : Nat → Int32) (q_h0_text : f0_h0[2]? = some (.ref h0_text)) (q_h0_text_all : f0_h0_text[0]? = some (.ref h0_text_all)) (q_h0_text_size : f0_h0_text[1]? = some (.int h0_text_size)) (n : Nat) (out : Int32) (hF : f_MM_skip h0_text_all_n l1 h0_text_size h0_text_all_c n 0 0 = some out) : zMi l ({ cls := "ChanceArenaModel", name := "skip", desc := "(I)I" } : Jvm.MethodName) (zW (Jvm.Cond.code ({ cls := "ChanceArenaModel", name := "skip", desc := "(I)I" } : Jvm.MethodName) prog_15_method_10_code (3 : Nat) (Option.some Jvm.ClassFile.FieldType.int))) { frames := 2, cells := 0, slots := 0, locals := 42 } [.ref h0, .int l1] D tA [(h0, .inr (13, f0_h0)), (h0_text, .inr (14, f0_h0_text)), (h0_text_all, .inl (tA 0, h0_text_all_n, .inl h0_text_all_c))] sz (fun (r9 : Int32) (u9 : Unit) => r9 = out) (fun (u9 : Unit) => [(h0, .inr (13, f0_h0)), (h0_text, .inr (14, f0_h0_text)), (h0_text_all, .inl (tA 0, h0_text_all_n, .inl h0_text_all_c))]) 0 0 := by
  refine zOpen (l := l) (y := ({ cls := "ChanceArenaModel", name := "skip", desc := "(I)I" } : Jvm.MethodName)) (ws := zW (Jvm.Cond.code ({ cls := "ChanceArenaModel", name := "skip", desc := "(I)I" } : Jvm.MethodName) prog_15_method_10_code (3 : Nat) (Option.some Jvm.ClassFile.FieldType.int))) (rm := { frames := 2, cells := 0, slots := 0, locals := 42 }) (av := [.ref h0, .int l1]) (D := D) (tA := tA) (W0 := [(h0, .inr (13, f0_h0)), (h0_text, .inr (14, f0_h0_text)), (h0_text_all, .inl (tA 0, h0_text_all_n, .inl h0_text_all_c))]) (Wm := [(h0, .inr (13, f0_h0)), (h0_text, .inr (14, f0_h0_text)), (h0_text_all, .inl (tA 0, h0_text_all_n, .inl h0_text_all_c))]) (sz := sz) (mc := 0) (ms := 0) (fun A => va_Qi (fun (r9 : Int32) (u9 : Unit) => r9 = out) (zPost D A (fun (u9 : Unit) => [(h0, .inr (13, f0_h0)), (h0_text, .inr (14, f0_h0_text)), (h0_text_all, .inl (tA 0, h0_text_all_n, .inl h0_text_all_c))])) A) (lv := [(0, .ref h0), (1, .int l1)]) (by decide) rfl (Nat.le_of_ble_eq_true rfl) rfl ?_
  intro p e s m below meth c A ls hx hb hr hml hh hg hown hlocks hnm hK hA hP hD0 hAw hS hl
  have hD := zD hD0 hAw
  exact (a_MM_skip hx hb hr hml hh hg hown hlocks hK hA n).1 0   _ _ _ hF q_h0_text q_h0_text_all q_h0_text_size hP hD hS hl
