theorem k11_212 : (Jvm.Cond.code ({ cls := "ChanceArenaModel", name := "turnTodo", desc := "(I)V" } : Jvm.MethodName) prog_15_method_57_code (5 : Nat) (Option.none : Option Jvm.ClassFile.FieldType)) ∈ lw_R := zR (zk_11 _ (List.mem_of_getElem? (i := 212) (by decide +kernel))) rfl
theorem k11_220 : (Jvm.Cond.code ({ cls := "ChanceArenaModel", name := "best", desc := "(ZII)V" } : Jvm.MethodName) prog_15_method_61_code (8 : Nat) (Option.none : Option Jvm.ClassFile.FieldType)) ∈ lw_R := zR (zk_11 _ (List.mem_of_getElem? (i := 220) (by decide +kernel))) rfl
theorem d_MM_turnTodo_0 : decode prog_15_method_57_code 0 = .ok (.iload_n 1, 1) := by decide +kernel
theorem d_MM_turnTodo_1 : decode prog_15_method_57_code 1 = .ok (.istore_n 2, 1) := by decide +kernel
theorem d_MM_turnTodo_2 : decode prog_15_method_57_code 2 = .ok (.aload_n 0, 1) := by decide +kernel
theorem d_MM_turnTodo_3 : decode prog_15_method_57_code 3 = .ok (.getfield 70, 3) := by decide +kernel
theorem d_MM_turnTodo_6 : decode prog_15_method_57_code 6 = .ok (.getfield 145, 3) := by decide +kernel
theorem d_MM_turnTodo_9 : decode prog_15_method_57_code 9 = .ok (.iconst 2, 1) := by decide +kernel
theorem d_MM_turnTodo_10 : decode prog_15_method_57_code 10 = .ok (.isub, 1) := by decide +kernel
theorem d_MM_turnTodo_11 : decode prog_15_method_57_code 11 = .ok (.istore_n 3, 1) := by decide +kernel
theorem d_MM_turnTodo_12 : decode prog_15_method_57_code 12 = .ok (.iload_n 2, 1) := by decide +kernel
theorem d_MM_turnTodo_13 : decode prog_15_method_57_code 13 = .ok (.iload_n 3, 1) := by decide +kernel
theorem d_MM_turnTodo_14 : decode prog_15_method_57_code 14 = .ok (.if_icmp .ge 60, 3) := by decide +kernel
theorem d_MM_turnTodo_74 : decode prog_15_method_57_code 74 = .ok (.return_, 1) := by decide +kernel
theorem d_MM_turnTodo_17 : decode prog_15_method_57_code 17 = .ok (.aload_n 0, 1) := by decide +kernel
theorem d_MM_turnTodo_18 : decode prog_15_method_57_code 18 = .ok (.getfield 70, 3) := by decide +kernel
theorem d_MM_turnTodo_21 : decode prog_15_method_57_code 21 = .ok (.iload_n 2, 1) := by decide +kernel
theorem d_MM_turnTodo_22 : decode prog_15_method_57_code 22 = .ok (.iconst 1, 1) := by decide +kernel
theorem d_MM_turnTodo_23 : decode prog_15_method_57_code 23 = .ok (.iadd, 1) := by decide +kernel
theorem d_MM_turnTodo_24 : decode prog_15_method_57_code 24 = .ok (.invokevirtual 155, 3) := by decide +kernel
theorem d_MM_turnTodo_27 : decode prog_15_method_57_code 27 = .ok (.istore 4, 2) := by decide +kernel
theorem d_MM_turnTodo_29 : decode prog_15_method_57_code 29 = .ok (.aload_n 0, 1) := by decide +kernel
theorem d_MM_turnTodo_30 : decode prog_15_method_57_code 30 = .ok (.getfield 70, 3) := by decide +kernel
theorem d_MM_turnTodo_33 : decode prog_15_method_57_code 33 = .ok (.getfield 293, 3) := by decide +kernel
theorem d_MM_turnTodo_36 : decode prog_15_method_57_code 36 = .ok (.iload_n 2, 1) := by decide +kernel
theorem d_MM_turnTodo_37 : decode prog_15_method_57_code 37 = .ok (.iconst 1, 1) := by decide +kernel
theorem d_MM_turnTodo_38 : decode prog_15_method_57_code 38 = .ok (.iadd, 1) := by decide +kernel
theorem d_MM_turnTodo_39 : decode prog_15_method_57_code 39 = .ok (.aload_n 0, 1) := by decide +kernel
theorem d_MM_turnTodo_40 : decode prog_15_method_57_code 40 = .ok (.getfield 70, 3) := by decide +kernel
theorem d_MM_turnTodo_43 : decode prog_15_method_57_code 43 = .ok (.iload_n 3, 1) := by decide +kernel
theorem d_MM_turnTodo_44 : decode prog_15_method_57_code 44 = .ok (.iconst 1, 1) := by decide +kernel
theorem d_MM_turnTodo_45 : decode prog_15_method_57_code 45 = .ok (.iadd, 1) := by decide +kernel
theorem d_MM_turnTodo_46 : decode prog_15_method_57_code 46 = .ok (.invokevirtual 155, 3) := by decide +kernel
theorem d_MM_turnTodo_49 : decode prog_15_method_57_code 49 = .ok (.iastore, 1) := by decide +kernel
theorem d_MM_turnTodo_50 : decode prog_15_method_57_code 50 = .ok (.aload_n 0, 1) := by decide +kernel
theorem d_MM_turnTodo_51 : decode prog_15_method_57_code 51 = .ok (.getfield 70, 3) := by decide +kernel
theorem d_MM_turnTodo_54 : decode prog_15_method_57_code 54 = .ok (.getfield 293, 3) := by decide +kernel
theorem d_MM_turnTodo_57 : decode prog_15_method_57_code 57 = .ok (.iload_n 3, 1) := by decide +kernel
theorem d_MM_turnTodo_58 : decode prog_15_method_57_code 58 = .ok (.iconst 1, 1) := by decide +kernel
theorem d_MM_turnTodo_59 : decode prog_15_method_57_code 59 = .ok (.iadd, 1) := by decide +kernel
theorem d_MM_turnTodo_60 : decode prog_15_method_57_code 60 = .ok (.iload 4, 2) := by decide +kernel
theorem d_MM_turnTodo_62 : decode prog_15_method_57_code 62 = .ok (.iastore, 1) := by decide +kernel
theorem d_MM_turnTodo_63 : decode prog_15_method_57_code 63 = .ok (.iload_n 2, 1) := by decide +kernel
theorem d_MM_turnTodo_64 : decode prog_15_method_57_code 64 = .ok (.iconst 2, 1) := by decide +kernel
theorem d_MM_turnTodo_65 : decode prog_15_method_57_code 65 = .ok (.iadd, 1) := by decide +kernel
theorem d_MM_turnTodo_66 : decode prog_15_method_57_code 66 = .ok (.istore_n 2, 1) := by decide +kernel
theorem d_MM_turnTodo_67 : decode prog_15_method_57_code 67 = .ok (.iload_n 3, 1) := by decide +kernel
theorem d_MM_turnTodo_68 : decode prog_15_method_57_code 68 = .ok (.iconst 2, 1) := by decide +kernel
theorem d_MM_turnTodo_69 : decode prog_15_method_57_code 69 = .ok (.isub, 1) := by decide +kernel
theorem d_MM_turnTodo_70 : decode prog_15_method_57_code 70 = .ok (.istore_n 3, 1) := by decide +kernel
theorem d_MM_turnTodo_71 : decode prog_15_method_57_code 71 = .ok (.goto (-59), 3) := by decide +kernel
theorem d_MM_best_0 : decode prog_15_method_61_code 0 = .ok (.iload_n 2, 1) := by decide +kernel
theorem d_MM_best_1 : decode prog_15_method_61_code 1 = .ok (.istore 4, 2) := by decide +kernel
theorem d_MM_best_3 : decode prog_15_method_61_code 3 = .ok (.iload_n 2, 1) := by decide +kernel
theorem d_MM_best_4 : decode prog_15_method_61_code 4 = .ok (.iconst 1, 1) := by decide +kernel
theorem d_MM_best_5 : decode prog_15_method_61_code 5 = .ok (.iadd, 1) := by decide +kernel
theorem d_MM_best_6 : decode prog_15_method_61_code 6 = .ok (.istore 5, 2) := by decide +kernel
theorem d_MM_best_8 : decode prog_15_method_61_code 8 = .ok (.iload 5, 2) := by decide +kernel
theorem d_MM_best_10 : decode prog_15_method_61_code 10 = .ok (.iload_n 2, 1) := by decide +kernel
theorem d_MM_best_11 : decode prog_15_method_61_code 11 = .ok (.iload_n 3, 1) := by decide +kernel
theorem d_MM_best_12 : decode prog_15_method_61_code 12 = .ok (.iadd, 1) := by decide +kernel
theorem d_MM_best_13 : decode prog_15_method_61_code 13 = .ok (.if_icmp .ge 73, 3) := by decide +kernel
theorem d_MM_best_86 : decode prog_15_method_61_code 86 = .ok (.aload_n 0, 1) := by decide +kernel
theorem d_MM_best_87 : decode prog_15_method_61_code 87 = .ok (.aload_n 0, 1) := by decide +kernel
theorem d_MM_best_88 : decode prog_15_method_61_code 88 = .ok (.getfield 63, 3) := by decide +kernel
theorem d_MM_best_91 : decode prog_15_method_61_code 91 = .ok (.iload 4, 2) := by decide +kernel
theorem d_MM_best_93 : decode prog_15_method_61_code 93 = .ok (.laload, 1) := by decide +kernel
theorem d_MM_best_94 : decode prog_15_method_61_code 94 = .ok (.aload_n 0, 1) := by decide +kernel
theorem d_MM_best_95 : decode prog_15_method_61_code 95 = .ok (.getfield 67, 3) := by decide +kernel
theorem d_MM_best_98 : decode prog_15_method_61_code 98 = .ok (.iload 4, 2) := by decide +kernel
theorem d_MM_best_100 : decode prog_15_method_61_code 100 = .ok (.laload, 1) := by decide +kernel
theorem d_MM_best_101 : decode prog_15_method_61_code 101 = .ok (.invokevirtual 373, 3) := by decide +kernel
theorem d_MM_best_104 : decode prog_15_method_61_code 104 = .ok (.return_, 1) := by decide +kernel
theorem d_MM_best_16 : decode prog_15_method_61_code 16 = .ok (.aload_n 0, 1) := by decide +kernel
theorem d_MM_best_17 : decode prog_15_method_61_code 17 = .ok (.getfield 63, 3) := by decide +kernel
theorem d_MM_best_20 : decode prog_15_method_61_code 20 = .ok (.iload 5, 2) := by decide +kernel
theorem d_MM_best_22 : decode prog_15_method_61_code 22 = .ok (.laload, 1) := by decide +kernel
theorem d_MM_best_23 : decode prog_15_method_61_code 23 = .ok (.aload_n 0, 1) := by decide +kernel
theorem d_MM_best_24 : decode prog_15_method_61_code 24 = .ok (.getfield 67, 3) := by decide +kernel
theorem d_MM_best_27 : decode prog_15_method_61_code 27 = .ok (.iload 4, 2) := by decide +kernel
theorem d_MM_best_29 : decode prog_15_method_61_code 29 = .ok (.laload, 1) := by decide +kernel
theorem d_MM_best_30 : decode prog_15_method_61_code 30 = .ok (.lmul, 1) := by decide +kernel
theorem d_MM_best_31 : decode prog_15_method_61_code 31 = .ok (.aload_n 0, 1) := by decide +kernel
theorem d_MM_best_32 : decode prog_15_method_61_code 32 = .ok (.getfield 63, 3) := by decide +kernel
theorem d_MM_best_35 : decode prog_15_method_61_code 35 = .ok (.iload 4, 2) := by decide +kernel
theorem d_MM_best_37 : decode prog_15_method_61_code 37 = .ok (.laload, 1) := by decide +kernel
theorem d_MM_best_38 : decode prog_15_method_61_code 38 = .ok (.aload_n 0, 1) := by decide +kernel
theorem d_MM_best_39 : decode prog_15_method_61_code 39 = .ok (.getfield 67, 3) := by decide +kernel
theorem d_MM_best_42 : decode prog_15_method_61_code 42 = .ok (.iload 5, 2) := by decide +kernel
theorem d_MM_best_44 : decode prog_15_method_61_code 44 = .ok (.laload, 1) := by decide +kernel
theorem d_MM_best_45 : decode prog_15_method_61_code 45 = .ok (.lmul, 1) := by decide +kernel
theorem d_MM_best_46 : decode prog_15_method_61_code 46 = .ok (.lsub, 1) := by decide +kernel
theorem d_MM_best_47 : decode prog_15_method_61_code 47 = .ok (.lstore 6, 2) := by decide +kernel
theorem d_MM_best_49 : decode prog_15_method_61_code 49 = .ok (.iload_n 1, 1) := by decide +kernel
theorem d_MM_best_50 : decode prog_15_method_61_code 50 = .ok (.ifCond .eq 10, 3) := by decide +kernel
theorem d_MM_best_60 : decode prog_15_method_61_code 60 = .ok (.iload_n 1, 1) := by decide +kernel
theorem d_MM_best_61 : decode prog_15_method_61_code 61 = .ok (.ifCond .ne 15, 3) := by decide +kernel
theorem d_MM_best_76 : decode prog_15_method_61_code 76 = .ok (.iload 4, 2) := by decide +kernel
theorem d_MM_best_78 : decode prog_15_method_61_code 78 = .ok (.istore 4, 2) := by decide +kernel
theorem d_MM_best_80 : decode prog_15_method_61_code 80 = .ok (.iinc 5 1, 3) := by decide +kernel
theorem d_MM_best_83 : decode prog_15_method_61_code 83 = .ok (.goto (-75), 3) := by decide +kernel
theorem d_MM_best_64 : decode prog_15_method_61_code 64 = .ok (.lload 6, 2) := by decide +kernel
theorem d_MM_best_66 : decode prog_15_method_61_code 66 = .ok (.lconst 0, 1) := by decide +kernel
theorem d_MM_best_67 : decode prog_15_method_61_code 67 = .ok (.lcmp, 1) := by decide +kernel
theorem d_MM_best_68 : decode prog_15_method_61_code 68 = .ok (.ifCond .le 8, 3) := by decide +kernel
theorem d_MM_best_71 : decode prog_15_method_61_code 71 = .ok (.iload 5, 2) := by decide +kernel
theorem d_MM_best_73 : decode prog_15_method_61_code 73 = .ok (.goto 5, 3) := by decide +kernel
theorem d_MM_best_53 : decode prog_15_method_61_code 53 = .ok (.lload 6, 2) := by decide +kernel
theorem d_MM_best_55 : decode prog_15_method_61_code 55 = .ok (.lconst 0, 1) := by decide +kernel
theorem d_MM_best_56 : decode prog_15_method_61_code 56 = .ok (.lcmp, 1) := by decide +kernel
theorem d_MM_best_57 : decode prog_15_method_61_code 57 = .ok (.ifCond .lt 14, 3) := by decide +kernel
def f_MM_turnTodo (h0_todo_all_n : Nat) (l1 : Int32) (h0_todo_size : Int32) : Nat → Nat → (Nat → Int32) → Int32 → Int32 → Option ((Nat → Int32))
  | 0, _, _, _, _ => none
  | n + 1, 0, h0_todo_all_c, l2, l3 => chk True (f_MM_turnTodo h0_todo_all_n l1 h0_todo_size n 1 h0_todo_all_c l1 (h0_todo_size - 2))
  | n + 1, 1, h0_todo_all_c, l2, l3 => if (l3 : Int32) ≤ l2 then some (h0_todo_all_c) else Option.bind (f_MN_at h0_todo_all_n (l2 + 1) h0_todo_all_c) (fun o1 => Option.bind (f_MN_at h0_todo_all_n (l3 + 1) h0_todo_all_c) (fun o2 => chk (0 ≤ ((l2 + 1) : Int32).toInt ∧ ((l2 + 1) : Int32).toInt < h0_todo_all_n) (chk (0 ≤ ((l3 + 1) : Int32).toInt ∧ ((l3 + 1) : Int32).toInt < h0_todo_all_n) (f_MM_turnTodo h0_todo_all_n l1 h0_todo_size n 1 (upd (upd h0_todo_all_c ((l2 + 1) : Int32).toNatClampNeg o2) ((l3 + 1) : Int32).toNatClampNeg o1) (l2 + 2) (l3 - 2)))))
  | _ + 1, _ + 2, _, _, _ => none
theorem e_MM_turnTodo_0 (h0_todo_all_n : Nat) (l1 : Int32) (h0_todo_size : Int32) (n : Nat) (h0_todo_all_c : Nat → Int32) (l2 : Int32) (l3 : Int32) : f_MM_turnTodo h0_todo_all_n l1 h0_todo_size (n + 1) 0 h0_todo_all_c l2 l3 = chk True (f_MM_turnTodo h0_todo_all_n l1 h0_todo_size n 1 h0_todo_all_c l1 (h0_todo_size - 2)) := by rw [f_MM_turnTodo]
theorem e_MM_turnTodo_1 (h0_todo_all_n : Nat) (l1 : Int32) (h0_todo_size : Int32) (n : Nat) (h0_todo_all_c : Nat → Int32) (l2 : Int32) (l3 : Int32) : f_MM_turnTodo h0_todo_all_n l1 h0_todo_size (n + 1) 1 h0_todo_all_c l2 l3 = if (l3 : Int32) ≤ l2 then some (h0_todo_all_c) else Option.bind (f_MN_at h0_todo_all_n (l2 + 1) h0_todo_all_c) (fun o1 => Option.bind (f_MN_at h0_todo_all_n (l3 + 1) h0_todo_all_c) (fun o2 => chk (0 ≤ ((l2 + 1) : Int32).toInt ∧ ((l2 + 1) : Int32).toInt < h0_todo_all_n) (chk (0 ≤ ((l3 + 1) : Int32).toInt ∧ ((l3 + 1) : Int32).toInt < h0_todo_all_n) (f_MM_turnTodo h0_todo_all_n l1 h0_todo_size n 1 (upd (upd h0_todo_all_c ((l2 + 1) : Int32).toNatClampNeg o2) ((l3 + 1) : Int32).toNatClampNeg o1) (l2 + 2) (l3 - 2))))) := by rw [f_MM_turnTodo]
theorem z_MM_turnTodo (h0_todo_all_n : Nat) (l1 : Int32) (h0_todo_size : Int32) (h : Nat) (h0_todo_all_c : Nat → Int32) (l2 : Int32) (l3 : Int32) : f_MM_turnTodo h0_todo_all_n l1 h0_todo_size 0 h h0_todo_all_c l2 l3 = none := by rw [f_MM_turnTodo]
set_option maxHeartbeats 4000000 in
set_option maxRecDepth 100000 in
theorem b_MM_turnTodo_0 {p : Program} {l : Launch} {e : Env} {s : State} {m : MethodId} {args : Array Value} {below : List Frame} {meth : Method} {c : Code} {D : va_G} {tA : Nat → ClassId} {A : Nat → Prop} {h0 h0_todo h0_todo_all : Nat} {f0_h0 f0_h0_todo : List Value} {h0_todo_all_n : Nat} {l1 : Int32} {h0_todo_size : Int32} {out : (Nat → Int32)} (hx : p.tables.exec = Jvm.exec) (hb : c.code = prog_15_method_57_code) (hr : meth.sig.returnType = (Option.none : Option Jvm.ClassFile.FieldType)) (hml : c.maxLocals = 5) (hh : zH s) (hg : ∀ w ∈ lw_R, w.before args s = true) (hown : s.vm.findClass "ChanceArenaModel" = some m.cls) (hlocks : meth.locks = false) (hK : va_K D vwCl (zT tA) s) (hA : ∀ q, s.heap.size ≤ q → A q) {n : Nat} (ih1 : ∀ (h0_todo_all_c : Nat → Int32) (l2 : Int32) (l3 : Int32) (H : Heap) (locs : List Loc) (ls : Array Slot), f_MM_turnTodo h0_todo_all_n l1 h0_todo_size n 1 h0_todo_all_c l2 l3 = some out → f0_h0[24]? = some (.ref h0_todo) → f0_h0_todo[0]? = some (.ref h0_todo_all) → f0_h0_todo[1]? = some (.int h0_todo_size) → va_P D vwCl [(h0, .inr (13, f0_h0)), (h0_todo, .inr (14, f0_h0_todo)), (h0_todo_all, .inl (tA 0, h0_todo_all_n, .inl h0_todo_all_c))] H → va_D A [(h0, .inr (13, f0_h0)), (h0_todo, .inr (14, f0_h0_todo)), (h0_todo_all, .inl (tA 0, h0_todo_all_n, .inl h0_todo_all_c))] → va_S A s.heap H locs → lv_has ls 5 [(0, .ref h0), (1, .int l1), (2, .int l2), (3, .int l3)] → W p l e { frames := 1, cells := 0, slots := 0, locals := 21 } s m args below meth c H locs 0 0 (MQ below (va_Qv (fun (u9 : Unit) => True) (zPost D A (fun (u9 : Unit) => [(h0, .inr (13, f0_h0)), (h0_todo, .inr (14, f0_h0_todo)), (h0_todo_all, .inl (tA 0, h0_todo_all_n, .inl out))])) A) args s 0 0 A) (F0 m 12 ls [])) : ∀ (h0_todo_all_c : Nat → Int32) (l2 : Int32) (l3 : Int32) (H : Heap) (locs : List Loc) (ls : Array Slot), f_MM_turnTodo h0_todo_all_n l1 h0_todo_size (n + 1) 0 h0_todo_all_c l2 l3 = some out → f0_h0[24]? = some (.ref h0_todo) → f0_h0_todo[0]? = some (.ref h0_todo_all) → f0_h0_todo[1]? = some (.int h0_todo_size) → va_P D vwCl [(h0, .inr (13, f0_h0)), (h0_todo, .inr (14, f0_h0_todo)), (h0_todo_all, .inl (tA 0, h0_todo_all_n, .inl h0_todo_all_c))] H → va_D A [(h0, .inr (13, f0_h0)), (h0_todo, .inr (14, f0_h0_todo)), (h0_todo_all, .inl (tA 0, h0_todo_all_n, .inl h0_todo_all_c))] → va_S A s.heap H locs → lv_has ls 5 [(0, .ref h0), (1, .int l1)] → W p l e { frames := 1, cells := 0, slots := 0, locals := 21 } s m args below meth c H locs 0 0 (MQ below (va_Qv (fun (u9 : Unit) => True) (zPost D A (fun (u9 : Unit) => [(h0, .inr (13, f0_h0)), (h0_todo, .inr (14, f0_h0_todo)), (h0_todo_all, .inl (tA 0, h0_todo_all_n, .inl out))])) A) args s 0 0 A) (F0 m 0 ls []) := by
  intro h0_todo_all_c l2 l3   H locs ls hF q_h0_todo q_h0_todo_all q_h0_todo_size hP hD hS hl
  rw [e_MM_turnTodo_0] at hF
  obtain ⟨_, hF⟩ := chk_some hF
  refine lv_iload_n hx hb d_MM_turnTodo_0 rfl (lv_at hl 1 rfl) ?_
  refine lv_istore_n (lv' := [(2, .int l1), (0, .ref h0), (1, .int l1)]) hx hb d_MM_turnTodo_1 rfl hl (by decide) rfl (fun ls hl => ?_)
  refine lv_aload_n hx hb d_MM_turnTodo_2 rfl (lv_at hl 1 rfl) ?_
  refine va_get (D := D) (ci := 13) (v := .ref h0_todo) (C := R_MM) (T := T_MM) (N := 49) hx hb hg i_MM hown hK hP 0 rfl rfl 24 (by decide) (hg _ k10_70) (fun _ h9 => h9) q_h0_todo d_MM_turnTodo_3 ?_
  refine va_getN (D := D) (ci := 14) (v := .int h0_todo_size) (C := R_MN) (T := T_MN) (N := 2) hx hb hg i_MN hown hK hP 1 rfl rfl 1 (by decide) (hg _ k8_215) (fun _ h9 => h9) q_h0_todo_size d_MM_turnTodo_6 ?_
  refine lv_iconst (v := 2) hx hb d_MM_turnTodo_9 (by decide) ?_
  refine lv_isub hx hb d_MM_turnTodo_10 ?_
  refine lv_istore_n (lv' := [(3, .int (h0_todo_size - 2)), (2, .int l1), (0, .ref h0), (1, .int l1)]) hx hb d_MM_turnTodo_11 rfl hl (by decide) rfl (fun ls hl => ?_)
  exact ih1 h0_todo_all_c l1 (h0_todo_size - 2)   _ _ _ hF q_h0_todo q_h0_todo_all q_h0_todo_size hP hD hS (lv_sub hl [2, 3, 1, 0] rfl)
set_option maxHeartbeats 4000000 in
set_option maxRecDepth 100000 in
theorem b_MM_turnTodo_1 {p : Program} {l : Launch} {e : Env} {s : State} {m : MethodId} {args : Array Value} {below : List Frame} {meth : Method} {c : Code} {D : va_G} {tA : Nat → ClassId} {A : Nat → Prop} {h0 h0_todo h0_todo_all : Nat} {f0_h0 f0_h0_todo : List Value} {h0_todo_all_n : Nat} {l1 : Int32} {h0_todo_size : Int32} {out : (Nat → Int32)} (hx : p.tables.exec = Jvm.exec) (hb : c.code = prog_15_method_57_code) (hr : meth.sig.returnType = (Option.none : Option Jvm.ClassFile.FieldType)) (hml : c.maxLocals = 5) (hh : zH s) (hg : ∀ w ∈ lw_R, w.before args s = true) (hown : s.vm.findClass "ChanceArenaModel" = some m.cls) (hlocks : meth.locks = false) (hK : va_K D vwCl (zT tA) s) (hA : ∀ q, s.heap.size ≤ q → A q) {n : Nat} (ih1 : ∀ (h0_todo_all_c : Nat → Int32) (l2 : Int32) (l3 : Int32) (H : Heap) (locs : List Loc) (ls : Array Slot), f_MM_turnTodo h0_todo_all_n l1 h0_todo_size n 1 h0_todo_all_c l2 l3 = some out → f0_h0[24]? = some (.ref h0_todo) → f0_h0_todo[0]? = some (.ref h0_todo_all) → f0_h0_todo[1]? = some (.int h0_todo_size) → va_P D vwCl [(h0, .inr (13, f0_h0)), (h0_todo, .inr (14, f0_h0_todo)), (h0_todo_all, .inl (tA 0, h0_todo_all_n, .inl h0_todo_all_c))] H → va_D A [(h0, .inr (13, f0_h0)), (h0_todo, .inr (14, f0_h0_todo)), (h0_todo_all, .inl (tA 0, h0_todo_all_n, .inl h0_todo_all_c))] → va_S A s.heap H locs → lv_has ls 5 [(0, .ref h0), (1, .int l1), (2, .int l2), (3, .int l3)] → W p l e { frames := 1, cells := 0, slots := 0, locals := 21 } s m args below meth c H locs 0 0 (MQ below (va_Qv (fun (u9 : Unit) => True) (zPost D A (fun (u9 : Unit) => [(h0, .inr (13, f0_h0)), (h0_todo, .inr (14, f0_h0_todo)), (h0_todo_all, .inl (tA 0, h0_todo_all_n, .inl out))])) A) args s 0 0 A) (F0 m 12 ls [])) : ∀ (h0_todo_all_c : Nat → Int32) (l2 : Int32) (l3 : Int32) (H : Heap) (locs : List Loc) (ls : Array Slot), f_MM_turnTodo h0_todo_all_n l1 h0_todo_size (n + 1) 1 h0_todo_all_c l2 l3 = some out → f0_h0[24]? = some (.ref h0_todo) → f0_h0_todo[0]? = some (.ref h0_todo_all) → f0_h0_todo[1]? = some (.int h0_todo_size) → va_P D vwCl [(h0, .inr (13, f0_h0)), (h0_todo, .inr (14, f0_h0_todo)), (h0_todo_all, .inl (tA 0, h0_todo_all_n, .inl h0_todo_all_c))] H → va_D A [(h0, .inr (13, f0_h0)), (h0_todo, .inr (14, f0_h0_todo)), (h0_todo_all, .inl (tA 0, h0_todo_all_n, .inl h0_todo_all_c))] → va_S A s.heap H locs → lv_has ls 5 [(0, .ref h0), (1, .int l1), (2, .int l2), (3, .int l3)] → W p l e { frames := 1, cells := 0, slots := 0, locals := 21 } s m args below meth c H locs 0 0 (MQ below (va_Qv (fun (u9 : Unit) => True) (zPost D A (fun (u9 : Unit) => [(h0, .inr (13, f0_h0)), (h0_todo, .inr (14, f0_h0_todo)), (h0_todo_all, .inl (tA 0, h0_todo_all_n, .inl out))])) A) args s 0 0 A) (F0 m 12 ls []) := by
  intro h0_todo_all_c l2 l3   H locs ls hF q_h0_todo q_h0_todo_all q_h0_todo_size hP hD hS hl
  rw [e_MM_turnTodo_1] at hF
  refine lv_iload_n hx hb d_MM_turnTodo_12 rfl (lv_at hl 2 rfl) ?_
  refine lv_iload_n hx hb d_MM_turnTodo_13 rfl (lv_at hl 3 rfl) ?_
  refine lv_icmp_ge (tgt := 74) hx hb d_MM_turnTodo_14 (by decide) (fun c9 => ?_) (fun c9 => ?_)
  · replace hF := ifp c9 hF
    replace hF := Option.some.inj hF
    subst hF
    exact zVret (post := (fun (u9 : Unit) => True)) (W1 := (fun (u9 : Unit) => [(h0, .inr (13, f0_h0)), (h0_todo, .inr (14, f0_h0_todo)), (h0_todo_all, .inl (tA 0, h0_todo_all_n, .inl (h0_todo_all_c)))])) hx hb hr hlocks hP hD hS () trivial rfl d_MM_turnTodo_74
  · replace hF := ifn c9 hF
    refine lv_aload_n hx hb d_MM_turnTodo_17 rfl (lv_at hl 0 rfl) ?_
    refine va_get (D := D) (ci := 13) (v := .ref h0_todo) (C := R_MM) (T := T_MM) (N := 49) hx hb hg i_MM hown hK hP 0 rfl rfl 24 (by decide) (hg _ k10_70) (fun _ h9 => h9) q_h0_todo d_MM_turnTodo_18 ?_
    refine lv_iload_n hx hb d_MM_turnTodo_21 rfl (lv_at hl 2 rfl) ?_
    refine lv_iconst (v := 1) hx hb d_MM_turnTodo_22 (by decide) ?_
    refine lv_iadd hx hb d_MM_turnTodo_23 ?_
    obtain ⟨o1, h1, hF⟩ := bsome hF
    refine zCalli (wc := [(h0_todo, .inr (14, f0_h0_todo)), (h0_todo_all, .inl (tA 0, h0_todo_all_n, .inl h0_todo_all_c))]) (wr := [(h0, .inr (13, f0_h0))]) hP hD hS hA [1, 2] [0] rfl rfl (by decide) (by decide) (va_runV (As := [.int (l2 + 1)]) (rest := []) ⟨hx, hb, hml, hown, hg⟩ (m_MN_at l D tA _ h0_todo h0_todo_all f0_h0_todo h0_todo_all_n (l2 + 1) h0_todo_all_c q_h0_todo_all o1 h1) (zV 1 hg k10_230 k10_231 k10_232 k1_15 k10_233 rfl rfl (by decide +kernel) ⟨(Nat.le_of_ble_eq_true rfl), (Nat.le_of_ble_eq_true rfl)⟩) (zPreV hh hK hP hD [1, 2] (by decide) rfl (ci := 14) rfl 0 rfl) rfl rfl hl.1 rfl (lv_room (Nat.le_of_ble_eq_true rfl)) d_MM_turnTodo_24 ⟨(Nat.le_of_ble_eq_true rfl), (Nat.le_of_ble_eq_true rfl)⟩) (fun r1 u1 H1 locs1 e1 hP1 hD1 hS1 => ?_)
    clear hP hD hS
    refine W.cs (cells' := 0) (slots' := 0) rfl rfl ?_
    have x1 := e1
    rw [x1]
    replace hP1 : va_P D vwCl [(h0, .inr (13, f0_h0)), (h0_todo, .inr (14, f0_h0_todo)), (h0_todo_all, .inl (tA 0, h0_todo_all_n, .inl h0_todo_all_c))] _ := hP1
    replace hD1 : va_D A [(h0, .inr (13, f0_h0)), (h0_todo, .inr (14, f0_h0_todo)), (h0_todo_all, .inl (tA 0, h0_todo_all_n, .inl h0_todo_all_c))] := hD1
    refine lv_istore (lv' := [(4, .int o1), (0, .ref h0), (1, .int l1), (2, .int l2), (3, .int l3)]) hx hb d_MM_turnTodo_27 hl (by decide) rfl (fun ls hl => ?_)
    refine lv_aload_n hx hb d_MM_turnTodo_29 rfl (lv_at hl 1 rfl) ?_
    refine va_get (D := D) (ci := 13) (v := .ref h0_todo) (C := R_MM) (T := T_MM) (N := 49) hx hb hg i_MM hown hK hP1 0 rfl rfl 24 (by decide) (hg _ k10_70) (fun _ h9 => h9) q_h0_todo d_MM_turnTodo_30 ?_
    refine va_getN (D := D) (ci := 14) (v := .ref h0_todo_all) (C := R_MN) (T := T_MN) (N := 2) hx hb hg i_MN hown hK hP1 1 rfl rfl 0 (by decide) (hg _ k8_212) (fun _ h9 => h9) q_h0_todo_all d_MM_turnTodo_33 ?_
    refine lv_iload_n hx hb d_MM_turnTodo_36 rfl (lv_at hl 3 rfl) ?_
    refine lv_iconst (v := 1) hx hb d_MM_turnTodo_37 (by decide) ?_
    refine lv_iadd hx hb d_MM_turnTodo_38 ?_
    refine lv_aload_n hx hb d_MM_turnTodo_39 rfl (lv_at hl 1 rfl) ?_
    refine va_get (D := D) (ci := 13) (v := .ref h0_todo) (C := R_MM) (T := T_MM) (N := 49) hx hb hg i_MM hown hK hP1 0 rfl rfl 24 (by decide) (hg _ k10_70) (fun _ h9 => h9) q_h0_todo d_MM_turnTodo_40 ?_
    refine lv_iload_n hx hb d_MM_turnTodo_43 rfl (lv_at hl 4 rfl) ?_
    refine lv_iconst (v := 1) hx hb d_MM_turnTodo_44 (by decide) ?_
    refine lv_iadd hx hb d_MM_turnTodo_45 ?_
    obtain ⟨o2, h2, hF⟩ := bsome hF
    refine zCalli (wc := [(h0_todo, .inr (14, f0_h0_todo)), (h0_todo_all, .inl (tA 0, h0_todo_all_n, .inl h0_todo_all_c))]) (wr := [(h0, .inr (13, f0_h0))]) hP1 hD1 hS1 hA [1, 2] [0] rfl rfl (by decide) (by decide) (va_runV (As := [.int (l3 + 1)]) (rest := [.int (l2 + 1), .ref h0_todo_all]) ⟨hx, hb, hml, hown, hg⟩ (m_MN_at l D tA _ h0_todo h0_todo_all f0_h0_todo h0_todo_all_n (l3 + 1) h0_todo_all_c q_h0_todo_all o2 h2) (zV 1 hg k10_230 k10_231 k10_232 k1_15 k10_233 rfl rfl (by decide +kernel) ⟨(Nat.le_of_ble_eq_true rfl), (Nat.le_of_ble_eq_true rfl)⟩) (zPreV hh hK hP1 hD1 [1, 2] (by decide) rfl (ci := 14) rfl 0 rfl) rfl rfl hl.1 rfl (lv_room (Nat.le_of_ble_eq_true rfl)) d_MM_turnTodo_46 ⟨(Nat.le_of_ble_eq_true rfl), (Nat.le_of_ble_eq_true rfl)⟩) (fun r2 u2 H2 locs2 e2 hP2 hD2 hS2 => ?_)
    clear hP1 hD1 hS1
    refine W.cs (cells' := 0) (slots' := 0) rfl rfl ?_
    have x2 := e2
    rw [x2]
    replace hP2 : va_P D vwCl [(h0, .inr (13, f0_h0)), (h0_todo, .inr (14, f0_h0_todo)), (h0_todo_all, .inl (tA 0, h0_todo_all_n, .inl h0_todo_all_c))] _ := hP2
    replace hD2 : va_D A [(h0, .inr (13, f0_h0)), (h0_todo, .inr (14, f0_h0_todo)), (h0_todo_all, .inl (tA 0, h0_todo_all_n, .inl h0_todo_all_c))] := hD2
    obtain ⟨h9, hF⟩ := chk_some hF
    refine va_iast hx hb hK hP2 hD2 hS2 2 0 rfl rfl (vp_in_iff.mpr h9) d_MM_turnTodo_49 (fun H3 locs3 hP3 hD3 hS3 => ?_)
    clear hP2 hD2 hS2
    replace hP3 : va_P D vwCl [(h0, .inr (13, f0_h0)), (h0_todo, .inr (14, f0_h0_todo)), (h0_todo_all, .inl (tA 0, h0_todo_all_n, .inl (upd h0_todo_all_c ((l2 + 1) : Int32).toNatClampNeg o2)))] _ := hP3
    replace hD3 : va_D A [(h0, .inr (13, f0_h0)), (h0_todo, .inr (14, f0_h0_todo)), (h0_todo_all, .inl (tA 0, h0_todo_all_n, .inl (upd h0_todo_all_c ((l2 + 1) : Int32).toNatClampNeg o2)))] := hD3
    refine lv_aload_n hx hb d_MM_turnTodo_50 rfl (lv_at hl 1 rfl) ?_
    refine va_get (D := D) (ci := 13) (v := .ref h0_todo) (C := R_MM) (T := T_MM) (N := 49) hx hb hg i_MM hown hK hP3 0 rfl rfl 24 (by decide) (hg _ k10_70) (fun _ h9 => h9) q_h0_todo d_MM_turnTodo_51 ?_
    refine va_getN (D := D) (ci := 14) (v := .ref h0_todo_all) (C := R_MN) (T := T_MN) (N := 2) hx hb hg i_MN hown hK hP3 1 rfl rfl 0 (by decide) (hg _ k8_212) (fun _ h9 => h9) q_h0_todo_all d_MM_turnTodo_54 ?_
    refine lv_iload_n hx hb d_MM_turnTodo_57 rfl (lv_at hl 4 rfl) ?_
    refine lv_iconst (v := 1) hx hb d_MM_turnTodo_58 (by decide) ?_
    refine lv_iadd hx hb d_MM_turnTodo_59 ?_
    refine lv_iload hx hb d_MM_turnTodo_60 (lv_at hl 0 rfl) ?_
    obtain ⟨h9, hF⟩ := chk_some hF
    refine va_iast hx hb hK hP3 hD3 hS3 2 0 rfl rfl (vp_in_iff.mpr h9) d_MM_turnTodo_62 (fun H4 locs4 hP4 hD4 hS4 => ?_)
    clear hP3 hD3 hS3
    replace hP4 : va_P D vwCl [(h0, .inr (13, f0_h0)), (h0_todo, .inr (14, f0_h0_todo)), (h0_todo_all, .inl (tA 0, h0_todo_all_n, .inl (upd (upd h0_todo_all_c ((l2 + 1) : Int32).toNatClampNeg o2) ((l3 + 1) : Int32).toNatClampNeg o1)))] _ := hP4
    replace hD4 : va_D A [(h0, .inr (13, f0_h0)), (h0_todo, .inr (14, f0_h0_todo)), (h0_todo_all, .inl (tA 0, h0_todo_all_n, .inl (upd (upd h0_todo_all_c ((l2 + 1) : Int32).toNatClampNeg o2) ((l3 + 1) : Int32).toNatClampNeg o1)))] := hD4
    refine lv_iload_n hx hb d_MM_turnTodo_63 rfl (lv_at hl 3 rfl) ?_
    refine lv_iconst (v := 2) hx hb d_MM_turnTodo_64 (by decide) ?_
    refine lv_iadd hx hb d_MM_turnTodo_65 ?_
    refine lv_istore_n (lv' := [(2, .int (l2 + 2)), (4, .int o1), (0, .ref h0), (1, .int l1), (3, .int l3)]) hx hb d_MM_turnTodo_66 rfl hl (by decide) rfl (fun ls hl => ?_)
    refine lv_iload_n hx hb d_MM_turnTodo_67 rfl (lv_at hl 4 rfl) ?_
    refine lv_iconst (v := 2) hx hb d_MM_turnTodo_68 (by decide) ?_
    refine lv_isub hx hb d_MM_turnTodo_69 ?_
    refine lv_istore_n (lv' := [(3, .int (l3 - 2)), (2, .int (l2 + 2)), (4, .int o1), (0, .ref h0), (1, .int l1)]) hx hb d_MM_turnTodo_70 rfl hl (by decide) rfl (fun ls hl => ?_)
    refine lv_goto (tgt := 12) hx hb d_MM_turnTodo_71 (by decide) ?_
    exact ih1 (upd (upd h0_todo_all_c ((l2 + 1) : Int32).toNatClampNeg o2) ((l3 + 1) : Int32).toNatClampNeg o1) (l2 + 2) (l3 - 2)   _ _ _ hF q_h0_todo q_h0_todo_all q_h0_todo_size hP4 hD4 hS4 (lv_sub hl [3, 4, 1, 0] rfl)
set_option maxHeartbeats 4000000 in
set_option maxRecDepth 100000 in
theorem a_MM_turnTodo {p : Program} {l : Launch} {e : Env} {s : State} {m : MethodId} {args : Array Value} {below : List Frame} {meth : Method} {c : Code} {D : va_G} {tA : Nat → ClassId} {A : Nat → Prop} {h0 h0_todo h0_todo_all : Nat} {f0_h0 f0_h0_todo : List Value} {h0_todo_all_n : Nat} {l1 : Int32} {h0_todo_size : Int32} {out : (Nat → Int32)} (hx : p.tables.exec = Jvm.exec) (hb : c.code = prog_15_method_57_code) (hr : meth.sig.returnType = (Option.none : Option Jvm.ClassFile.FieldType)) (hml : c.maxLocals = 5) (hh : zH s) (hg : ∀ w ∈ lw_R, w.before args s = true) (hown : s.vm.findClass "ChanceArenaModel" = some m.cls) (hlocks : meth.locks = false) (hK : va_K D vwCl (zT tA) s) (hA : ∀ q, s.heap.size ≤ q → A q) : ∀ n : Nat, (∀ (h0_todo_all_c : Nat → Int32) (l2 : Int32) (l3 : Int32) (H : Heap) (locs : List Loc) (ls : Array Slot), f_MM_turnTodo h0_todo_all_n l1 h0_todo_size n 0 h0_todo_all_c l2 l3 = some out → f0_h0[24]? = some (.ref h0_todo) → f0_h0_todo[0]? = some (.ref h0_todo_all) → f0_h0_todo[1]? = some (.int h0_todo_size) → va_P D vwCl [(h0, .inr (13, f0_h0)), (h0_todo, .inr (14, f0_h0_todo)), (h0_todo_all, .inl (tA 0, h0_todo_all_n, .inl h0_todo_all_c))] H → va_D A [(h0, .inr (13, f0_h0)), (h0_todo, .inr (14, f0_h0_todo)), (h0_todo_all, .inl (tA 0, h0_todo_all_n, .inl h0_todo_all_c))] → va_S A s.heap H locs → lv_has ls 5 [(0, .ref h0), (1, .int l1)] → W p l e { frames := 1, cells := 0, slots := 0, locals := 21 } s m args below meth c H locs 0 0 (MQ below (va_Qv (fun (u9 : Unit) => True) (zPost D A (fun (u9 : Unit) => [(h0, .inr (13, f0_h0)), (h0_todo, .inr (14, f0_h0_todo)), (h0_todo_all, .inl (tA 0, h0_todo_all_n, .inl out))])) A) args s 0 0 A) (F0 m 0 ls [])) ∧ (∀ (h0_todo_all_c : Nat → Int32) (l2 : Int32) (l3 : Int32) (H : Heap) (locs : List Loc) (ls : Array Slot), f_MM_turnTodo h0_todo_all_n l1 h0_todo_size n 1 h0_todo_all_c l2 l3 = some out → f0_h0[24]? = some (.ref h0_todo) → f0_h0_todo[0]? = some (.ref h0_todo_all) → f0_h0_todo[1]? = some (.int h0_todo_size) → va_P D vwCl [(h0, .inr (13, f0_h0)), (h0_todo, .inr (14, f0_h0_todo)), (h0_todo_all, .inl (tA 0, h0_todo_all_n, .inl h0_todo_all_c))] H → va_D A [(h0, .inr (13, f0_h0)), (h0_todo, .inr (14, f0_h0_todo)), (h0_todo_all, .inl (tA 0, h0_todo_all_n, .inl h0_todo_all_c))] → va_S A s.heap H locs → lv_has ls 5 [(0, .ref h0), (1, .int l1), (2, .int l2), (3, .int l3)] → W p l e { frames := 1, cells := 0, slots := 0, locals := 21 } s m args below meth c H locs 0 0 (MQ below (va_Qv (fun (u9 : Unit) => True) (zPost D A (fun (u9 : Unit) => [(h0, .inr (13, f0_h0)), (h0_todo, .inr (14, f0_h0_todo)), (h0_todo_all, .inl (tA 0, h0_todo_all_n, .inl out))])) A) args s 0 0 A) (F0 m 12 ls [])) := by
  intro n
  induction n with
  | zero => exact ⟨(fun _ _ _ _ _ _ hF => by rw [z_MM_turnTodo] at hF; cases hF), (fun _ _ _ _ _ _ hF => by rw [z_MM_turnTodo] at hF; cases hF)⟩
  | succ n ih =>
    obtain ⟨i0, i1⟩ := ih
    exact ⟨b_MM_turnTodo_0 hx hb hr hml hh hg hown hlocks hK hA i1, b_MM_turnTodo_1 hx hb hr hml hh hg hown hlocks hK hA i1⟩
set_option maxHeartbeats 4000000 in
set_option maxRecDepth 100000 in
theorem m_MM_turnTodo (l : Launch) (D : va_G) (tA : Nat → ClassId) (sz : Nat) (h0 h0_todo h0_todo_all : Nat) (f0_h0 f0_h0_todo : List Value) (h0_todo_all_n : Nat) (l1 : Int32) (h0_todo_size : Int32) (h0_todo_all_c : Nat → Int32) (q_h0_todo : f0_h0[24]? = some (.ref h0_todo)) (q_h0_todo_all : f0_h0_todo[0]? = some (.ref h0_todo_all)) (q_h0_todo_size : f0_h0_todo[1]? = some (.int h0_todo_size)) (n : Nat) (out : (Nat → Int32)) (hF : f_MM_turnTodo h0_todo_all_n l1 h0_todo_size n 0 h0_todo_all_c 0 0 = some out) : zMv l ({ cls := "ChanceArenaModel", name := "turnTodo", desc := "(I)V" } : Jvm.MethodName) (zW (Jvm.Cond.code ({ cls := "ChanceArenaModel", name := "turnTodo", desc := "(I)V" } : Jvm.MethodName) prog_15_method_57_code (5 : Nat) (Option.none : Option Jvm.ClassFile.FieldType))) { frames := 1, cells := 0, slots := 0, locals := 21 } [.ref h0, .int l1] D tA [(h0, .inr (13, f0_h0)), (h0_todo, .inr (14, f0_h0_todo)), (h0_todo_all, .inl (tA 0, h0_todo_all_n, .inl h0_todo_all_c))] sz (fun (u9 : Unit) => True) (fun (u9 : Unit) => [(h0, .inr (13, f0_h0)), (h0_todo, .inr (14, f0_h0_todo)), (h0_todo_all, .inl (tA 0, h0_todo_all_n, .inl out))]) 0 0 := by
  refine zOpen (l := l) (y := ({ cls := "ChanceArenaModel", name := "turnTodo", desc := "(I)V" } : Jvm.MethodName)) (ws := zW (Jvm.Cond.code ({ cls := "ChanceArenaModel", name := "turnTodo", desc := "(I)V" } : Jvm.MethodName) prog_15_method_57_code (5 : Nat) (Option.none : Option Jvm.ClassFile.FieldType))) (rm := { frames := 1, cells := 0, slots := 0, locals := 21 }) (av := [.ref h0, .int l1]) (D := D) (tA := tA) (W0 := [(h0, .inr (13, f0_h0)), (h0_todo, .inr (14, f0_h0_todo)), (h0_todo_all, .inl (tA 0, h0_todo_all_n, .inl h0_todo_all_c))]) (Wm := [(h0, .inr (13, f0_h0)), (h0_todo, .inr (14, f0_h0_todo)), (h0_todo_all, .inl (tA 0, h0_todo_all_n, .inl h0_todo_all_c))]) (sz := sz) (mc := 0) (ms := 0) (fun A => va_Qv (fun (u9 : Unit) => True) (zPost D A (fun (u9 : Unit) => [(h0, .inr (13, f0_h0)), (h0_todo, .inr (14, f0_h0_todo)), (h0_todo_all, .inl (tA 0, h0_todo_all_n, .inl out))])) A) (lv := [(0, .ref h0), (1, .int l1)]) (by decide) rfl (Nat.le_of_ble_eq_true rfl) rfl ?_
  intro p e s m below meth c A ls hx hb hr hml hh hg hown hlocks hnm hK hA hP hD0 hAw hS hl
  have hD := zD hD0 hAw
  exact (a_MM_turnTodo hx hb hr hml hh hg hown hlocks hK hA n).1 h0_todo_all_c 0 0   _ _ _ hF q_h0_todo q_h0_todo_all q_h0_todo_size hP hD hS hl
def f_MM_best (h0_above_n : Nat) (h0_below_n : Nat) (l1 : Int32) (l2 : Int32) (l3 : Int32) : Nat → Nat → Int32 → (Nat → Int64) → (Nat → Int64) → Int32 → Int32 → Option (Int32 × (Nat → Int64) × (Nat → Int64))
  | 0, _, _, _, _, _, _ => none
  | n + 1, 0, h0_values, h0_above_c, h0_below_c, l4, l5 => chk True (f_MM_best h0_above_n h0_below_n l1 l2 l3 n 1 h0_values h0_above_c h0_below_c l2 (l2 + 1))
  | n + 1, 1, h0_values, h0_above_c, h0_below_c, l4, l5 => if ((l2 + l3) : Int32) ≤ l5 then chk (0 ≤ (l4 : Int32).toInt ∧ (l4 : Int32).toInt < h0_above_n) (chk (0 ≤ (l4 : Int32).toInt ∧ (l4 : Int32).toInt < h0_below_n) (Option.bind (f_MM_push h0_above_n h0_below_n (h0_above_c (l4 : Int32).toNatClampNeg) (h0_below_c (l4 : Int32).toNatClampNeg) h0_values h0_above_c h0_below_c) (fun o1 => some (o1.1, o1.2.1, o1.2.2)))) else chk (0 ≤ (l5 : Int32).toInt ∧ (l5 : Int32).toInt < h0_above_n) (chk (0 ≤ (l4 : Int32).toInt ∧ (l4 : Int32).toInt < h0_below_n) (chk (0 ≤ (l4 : Int32).toInt ∧ (l4 : Int32).toInt < h0_above_n) (chk (0 ≤ (l5 : Int32).toInt ∧ (l5 : Int32).toInt < h0_below_n) (if (l1 : Int32) = 0 then (if ¬ (l1 : Int32) = 0 then f_MM_best h0_above_n h0_below_n l1 l2 l3 n 1 h0_values h0_above_c h0_below_c l4 (l5 + Int32.ofInt 1) else if ((lg_cmp (((h0_above_c (l5 : Int32).toNatClampNeg) * (h0_below_c (l4 : Int32).toNatClampNeg)) - ((h0_above_c (l4 : Int32).toNatClampNeg) * (h0_below_c (l5 : Int32).toNatClampNeg))) 0) : Int32) ≤ 0 then f_MM_best h0_above_n h0_below_n l1 l2 l3 n 1 h0_values h0_above_c h0_below_c l4 (l5 + Int32.ofInt 1) else f_MM_best h0_above_n h0_below_n l1 l2 l3 n 1 h0_values h0_above_c h0_below_c l5 (l5 + Int32.ofInt 1)) else if ((lg_cmp (((h0_above_c (l5 : Int32).toNatClampNeg) * (h0_below_c (l4 : Int32).toNatClampNeg)) - ((h0_above_c (l4 : Int32).toNatClampNeg) * (h0_below_c (l5 : Int32).toNatClampNeg))) 0) : Int32) < 0 then f_MM_best h0_above_n h0_below_n l1 l2 l3 n 1 h0_values h0_above_c h0_below_c l5 (l5 + Int32.ofInt 1) else if ¬ (l1 : Int32) = 0 then f_MM_best h0_above_n h0_below_n l1 l2 l3 n 1 h0_values h0_above_c h0_below_c l4 (l5 + Int32.ofInt 1) else if ((lg_cmp (((h0_above_c (l5 : Int32).toNatClampNeg) * (h0_below_c (l4 : Int32).toNatClampNeg)) - ((h0_above_c (l4 : Int32).toNatClampNeg) * (h0_below_c (l5 : Int32).toNatClampNeg))) 0) : Int32) ≤ 0 then f_MM_best h0_above_n h0_below_n l1 l2 l3 n 1 h0_values h0_above_c h0_below_c l4 (l5 + Int32.ofInt 1) else f_MM_best h0_above_n h0_below_n l1 l2 l3 n 1 h0_values h0_above_c h0_below_c l5 (l5 + Int32.ofInt 1)))))
  | _ + 1, _ + 2, _, _, _, _, _ => none
theorem e_MM_best_0 (h0_above_n : Nat) (h0_below_n : Nat) (l1 : Int32) (l2 : Int32) (l3 : Int32) (n : Nat) (h0_values : Int32) (h0_above_c : Nat → Int64) (h0_below_c : Nat → Int64) (l4 : Int32) (l5 : Int32) : f_MM_best h0_above_n h0_below_n l1 l2 l3 (n + 1) 0 h0_values h0_above_c h0_below_c l4 l5 = chk True (f_MM_best h0_above_n h0_below_n l1 l2 l3 n 1 h0_values h0_above_c h0_below_c l2 (l2 + 1)) := by rw [f_MM_best]
theorem e_MM_best_1 (h0_above_n : Nat) (h0_below_n : Nat) (l1 : Int32) (l2 : Int32) (l3 : Int32) (n : Nat) (h0_values : Int32) (h0_above_c : Nat → Int64) (h0_below_c : Nat → Int64) (l4 : Int32) (l5 : Int32) : f_MM_best h0_above_n h0_below_n l1 l2 l3 (n + 1) 1 h0_values h0_above_c h0_below_c l4 l5 = if ((l2 + l3) : Int32) ≤ l5 then chk (0 ≤ (l4 : Int32).toInt ∧ (l4 : Int32).toInt < h0_above_n) (chk (0 ≤ (l4 : Int32).toInt ∧ (l4 : Int32).toInt < h0_below_n) (Option.bind (f_MM_push h0_above_n h0_below_n (h0_above_c (l4 : Int32).toNatClampNeg) (h0_below_c (l4 : Int32).toNatClampNeg) h0_values h0_above_c h0_below_c) (fun o1 => some (o1.1, o1.2.1, o1.2.2)))) else chk (0 ≤ (l5 : Int32).toInt ∧ (l5 : Int32).toInt < h0_above_n) (chk (0 ≤ (l4 : Int32).toInt ∧ (l4 : Int32).toInt < h0_below_n) (chk (0 ≤ (l4 : Int32).toInt ∧ (l4 : Int32).toInt < h0_above_n) (chk (0 ≤ (l5 : Int32).toInt ∧ (l5 : Int32).toInt < h0_below_n) (if (l1 : Int32) = 0 then (if ¬ (l1 : Int32) = 0 then f_MM_best h0_above_n h0_below_n l1 l2 l3 n 1 h0_values h0_above_c h0_below_c l4 (l5 + Int32.ofInt 1) else if ((lg_cmp (((h0_above_c (l5 : Int32).toNatClampNeg) * (h0_below_c (l4 : Int32).toNatClampNeg)) - ((h0_above_c (l4 : Int32).toNatClampNeg) * (h0_below_c (l5 : Int32).toNatClampNeg))) 0) : Int32) ≤ 0 then f_MM_best h0_above_n h0_below_n l1 l2 l3 n 1 h0_values h0_above_c h0_below_c l4 (l5 + Int32.ofInt 1) else f_MM_best h0_above_n h0_below_n l1 l2 l3 n 1 h0_values h0_above_c h0_below_c l5 (l5 + Int32.ofInt 1)) else if ((lg_cmp (((h0_above_c (l5 : Int32).toNatClampNeg) * (h0_below_c (l4 : Int32).toNatClampNeg)) - ((h0_above_c (l4 : Int32).toNatClampNeg) * (h0_below_c (l5 : Int32).toNatClampNeg))) 0) : Int32) < 0 then f_MM_best h0_above_n h0_below_n l1 l2 l3 n 1 h0_values h0_above_c h0_below_c l5 (l5 + Int32.ofInt 1) else if ¬ (l1 : Int32) = 0 then f_MM_best h0_above_n h0_below_n l1 l2 l3 n 1 h0_values h0_above_c h0_below_c l4 (l5 + Int32.ofInt 1) else if ((lg_cmp (((h0_above_c (l5 : Int32).toNatClampNeg) * (h0_below_c (l4 : Int32).toNatClampNeg)) - ((h0_above_c (l4 : Int32).toNatClampNeg) * (h0_below_c (l5 : Int32).toNatClampNeg))) 0) : Int32) ≤ 0 then f_MM_best h0_above_n h0_below_n l1 l2 l3 n 1 h0_values h0_above_c h0_below_c l4 (l5 + Int32.ofInt 1) else f_MM_best h0_above_n h0_below_n l1 l2 l3 n 1 h0_values h0_above_c h0_below_c l5 (l5 + Int32.ofInt 1))))) := by rw [f_MM_best]
theorem z_MM_best (h0_above_n : Nat) (h0_below_n : Nat) (l1 : Int32) (l2 : Int32) (l3 : Int32) (h : Nat) (h0_values : Int32) (h0_above_c : Nat → Int64) (h0_below_c : Nat → Int64) (l4 : Int32) (l5 : Int32) : f_MM_best h0_above_n h0_below_n l1 l2 l3 0 h h0_values h0_above_c h0_below_c l4 l5 = none := by rw [f_MM_best]
set_option maxHeartbeats 4000000 in
set_option maxRecDepth 100000 in
theorem b_MM_best_0 {p : Program} {l : Launch} {e : Env} {s : State} {m : MethodId} {args : Array Value} {below : List Frame} {meth : Method} {c : Code} {D : va_G} {tA : Nat → ClassId} {A : Nat → Prop} {h0 h0_above h0_below : Nat} {f0_h0 : List Value} {h0_above_n : Nat} {h0_below_n : Nat} {l1 : Int32} {l2 : Int32} {l3 : Int32} {out : Int32 × (Nat → Int64) × (Nat → Int64)} (hx : p.tables.exec = Jvm.exec) (hb : c.code = prog_15_method_61_code) (hr : meth.sig.returnType = (Option.none : Option Jvm.ClassFile.FieldType)) (hml : c.maxLocals = 8) (hh : zH s) (hg : ∀ w ∈ lw_R, w.before args s = true) (hown : s.vm.findClass "ChanceArenaModel" = some m.cls) (hlocks : meth.locks = false) (hK : va_K D vwCl (zT tA) s) (hA : ∀ q, s.heap.size ≤ q → A q) {n : Nat} (ih1 : ∀ (h0_values : Int32) (h0_above_c : Nat → Int64) (h0_below_c : Nat → Int64) (l4 : Int32) (l5 : Int32) (f_h0 : List Value) (H : Heap) (locs : List Loc) (ls : Array Slot), f_MM_best h0_above_n h0_below_n l1 l2 l3 n 1 h0_values h0_above_c h0_below_c l4 l5 = some out → f_h0[21]? = some (.ref h0_above) → f_h0[22]? = some (.ref h0_below) → f_h0[23]? = some (.int h0_values) → Fr [23] f0_h0 f_h0 → va_P D vwCl [(h0, .inr (13, f_h0)), (h0_above, .inl (tA 3, h0_above_n, .inr (.inl h0_above_c))), (h0_below, .inl (tA 3, h0_below_n, .inr (.inl h0_below_c)))] H → va_D A [(h0, .inr (13, f_h0)), (h0_above, .inl (tA 3, h0_above_n, .inr (.inl h0_above_c))), (h0_below, .inl (tA 3, h0_below_n, .inr (.inl h0_below_c)))] → va_S A s.heap H locs → lv_has ls 8 [(0, .ref h0), (1, .int l1), (2, .int l2), (3, .int l3), (4, .int l4), (5, .int l5)] → W p l e { frames := 1, cells := 0, slots := 0, locals := 24 } s m args below meth c H locs 0 0 (MQ below (va_Qv (fun (u9 : List Value) => Fr [23] f0_h0 u9 ∧ u9[23]? = some (.int out.1)) (zPost D A (fun (u9 : List Value) => [(h0, .inr (13, u9)), (h0_above, .inl (tA 3, h0_above_n, .inr (.inl out.2.1))), (h0_below, .inl (tA 3, h0_below_n, .inr (.inl out.2.2)))])) A) args s 0 0 A) (F0 m 8 ls [])) : ∀ (h0_values : Int32) (h0_above_c : Nat → Int64) (h0_below_c : Nat → Int64) (l4 : Int32) (l5 : Int32) (f_h0 : List Value) (H : Heap) (locs : List Loc) (ls : Array Slot), f_MM_best h0_above_n h0_below_n l1 l2 l3 (n + 1) 0 h0_values h0_above_c h0_below_c l4 l5 = some out → f_h0[21]? = some (.ref h0_above) → f_h0[22]? = some (.ref h0_below) → f_h0[23]? = some (.int h0_values) → Fr [23] f0_h0 f_h0 → va_P D vwCl [(h0, .inr (13, f_h0)), (h0_above, .inl (tA 3, h0_above_n, .inr (.inl h0_above_c))), (h0_below, .inl (tA 3, h0_below_n, .inr (.inl h0_below_c)))] H → va_D A [(h0, .inr (13, f_h0)), (h0_above, .inl (tA 3, h0_above_n, .inr (.inl h0_above_c))), (h0_below, .inl (tA 3, h0_below_n, .inr (.inl h0_below_c)))] → va_S A s.heap H locs → lv_has ls 8 [(0, .ref h0), (1, .int l1), (2, .int l2), (3, .int l3)] → W p l e { frames := 1, cells := 0, slots := 0, locals := 24 } s m args below meth c H locs 0 0 (MQ below (va_Qv (fun (u9 : List Value) => Fr [23] f0_h0 u9 ∧ u9[23]? = some (.int out.1)) (zPost D A (fun (u9 : List Value) => [(h0, .inr (13, u9)), (h0_above, .inl (tA 3, h0_above_n, .inr (.inl out.2.1))), (h0_below, .inl (tA 3, h0_below_n, .inr (.inl out.2.2)))])) A) args s 0 0 A) (F0 m 0 ls []) := by
  intro h0_values h0_above_c h0_below_c l4 l5  f_h0 H locs ls hF q_h0_above q_h0_below q_h0_values r_h0 hP hD hS hl
  rw [e_MM_best_0] at hF
  obtain ⟨_, hF⟩ := chk_some hF
  refine lv_iload_n hx hb d_MM_best_0 rfl (lv_at hl 2 rfl) ?_
  refine lv_istore (lv' := [(4, .int l2), (0, .ref h0), (1, .int l1), (2, .int l2), (3, .int l3)]) hx hb d_MM_best_1 hl (by decide) rfl (fun ls hl => ?_)
  refine lv_iload_n hx hb d_MM_best_3 rfl (lv_at hl 3 rfl) ?_
  refine lv_iconst (v := 1) hx hb d_MM_best_4 (by decide) ?_
  refine lv_iadd hx hb d_MM_best_5 ?_
  refine lv_istore (lv' := [(5, .int (l2 + 1)), (4, .int l2), (0, .ref h0), (1, .int l1), (2, .int l2), (3, .int l3)]) hx hb d_MM_best_6 hl (by decide) rfl (fun ls hl => ?_)
  exact ih1 h0_values h0_above_c h0_below_c l2 (l2 + 1)  f_h0 _ _ _ hF q_h0_above q_h0_below q_h0_values r_h0 hP hD hS (lv_sub hl [2, 3, 4, 5, 1, 0] rfl)
set_option maxHeartbeats 4000000 in
set_option maxRecDepth 100000 in
theorem b_MM_best_1 {p : Program} {l : Launch} {e : Env} {s : State} {m : MethodId} {args : Array Value} {below : List Frame} {meth : Method} {c : Code} {D : va_G} {tA : Nat → ClassId} {A : Nat → Prop} {h0 h0_above h0_below : Nat} {f0_h0 : List Value} {h0_above_n : Nat} {h0_below_n : Nat} {l1 : Int32} {l2 : Int32} {l3 : Int32} {out : Int32 × (Nat → Int64) × (Nat → Int64)} (hx : p.tables.exec = Jvm.exec) (hb : c.code = prog_15_method_61_code) (hr : meth.sig.returnType = (Option.none : Option Jvm.ClassFile.FieldType)) (hml : c.maxLocals = 8) (hh : zH s) (hg : ∀ w ∈ lw_R, w.before args s = true) (hown : s.vm.findClass "ChanceArenaModel" = some m.cls) (hlocks : meth.locks = false) (hK : va_K D vwCl (zT tA) s) (hA : ∀ q, s.heap.size ≤ q → A q) {n : Nat} (ih1 : ∀ (h0_values : Int32) (h0_above_c : Nat → Int64) (h0_below_c : Nat → Int64) (l4 : Int32) (l5 : Int32) (f_h0 : List Value) (H : Heap) (locs : List Loc) (ls : Array Slot), f_MM_best h0_above_n h0_below_n l1 l2 l3 n 1 h0_values h0_above_c h0_below_c l4 l5 = some out → f_h0[21]? = some (.ref h0_above) → f_h0[22]? = some (.ref h0_below) → f_h0[23]? = some (.int h0_values) → Fr [23] f0_h0 f_h0 → va_P D vwCl [(h0, .inr (13, f_h0)), (h0_above, .inl (tA 3, h0_above_n, .inr (.inl h0_above_c))), (h0_below, .inl (tA 3, h0_below_n, .inr (.inl h0_below_c)))] H → va_D A [(h0, .inr (13, f_h0)), (h0_above, .inl (tA 3, h0_above_n, .inr (.inl h0_above_c))), (h0_below, .inl (tA 3, h0_below_n, .inr (.inl h0_below_c)))] → va_S A s.heap H locs → lv_has ls 8 [(0, .ref h0), (1, .int l1), (2, .int l2), (3, .int l3), (4, .int l4), (5, .int l5)] → W p l e { frames := 1, cells := 0, slots := 0, locals := 24 } s m args below meth c H locs 0 0 (MQ below (va_Qv (fun (u9 : List Value) => Fr [23] f0_h0 u9 ∧ u9[23]? = some (.int out.1)) (zPost D A (fun (u9 : List Value) => [(h0, .inr (13, u9)), (h0_above, .inl (tA 3, h0_above_n, .inr (.inl out.2.1))), (h0_below, .inl (tA 3, h0_below_n, .inr (.inl out.2.2)))])) A) args s 0 0 A) (F0 m 8 ls [])) : ∀ (h0_values : Int32) (h0_above_c : Nat → Int64) (h0_below_c : Nat → Int64) (l4 : Int32) (l5 : Int32) (f_h0 : List Value) (H : Heap) (locs : List Loc) (ls : Array Slot), f_MM_best h0_above_n h0_below_n l1 l2 l3 (n + 1) 1 h0_values h0_above_c h0_below_c l4 l5 = some out → f_h0[21]? = some (.ref h0_above) → f_h0[22]? = some (.ref h0_below) → f_h0[23]? = some (.int h0_values) → Fr [23] f0_h0 f_h0 → va_P D vwCl [(h0, .inr (13, f_h0)), (h0_above, .inl (tA 3, h0_above_n, .inr (.inl h0_above_c))), (h0_below, .inl (tA 3, h0_below_n, .inr (.inl h0_below_c)))] H → va_D A [(h0, .inr (13, f_h0)), (h0_above, .inl (tA 3, h0_above_n, .inr (.inl h0_above_c))), (h0_below, .inl (tA 3, h0_below_n, .inr (.inl h0_below_c)))] → va_S A s.heap H locs → lv_has ls 8 [(0, .ref h0), (1, .int l1), (2, .int l2), (3, .int l3), (4, .int l4), (5, .int l5)] → W p l e { frames := 1, cells := 0, slots := 0, locals := 24 } s m args below meth c H locs 0 0 (MQ below (va_Qv (fun (u9 : List Value) => Fr [23] f0_h0 u9 ∧ u9[23]? = some (.int out.1)) (zPost D A (fun (u9 : List Value) => [(h0, .inr (13, u9)), (h0_above, .inl (tA 3, h0_above_n, .inr (.inl out.2.1))), (h0_below, .inl (tA 3, h0_below_n, .inr (.inl out.2.2)))])) A) args s 0 0 A) (F0 m 8 ls []) := by
  intro h0_values h0_above_c h0_below_c l4 l5  f_h0 H locs ls hF q_h0_above q_h0_below q_h0_values r_h0 hP hD hS hl
  rw [e_MM_best_1] at hF
  refine lv_iload hx hb d_MM_best_8 (lv_at hl 5 rfl) ?_
  refine lv_iload_n hx hb d_MM_best_10 rfl (lv_at hl 2 rfl) ?_
  refine lv_iload_n hx hb d_MM_best_11 rfl (lv_at hl 3 rfl) ?_
  refine lv_iadd hx hb d_MM_best_12 ?_
  refine lv_icmp_ge (tgt := 86) hx hb d_MM_best_13 (by decide) (fun c9 => ?_) (fun c9 => ?_)
  · replace hF := ifp c9 hF
    refine lv_aload_n hx hb d_MM_best_86 rfl (lv_at hl 0 rfl) ?_
    refine lv_aload_n hx hb d_MM_best_87 rfl (lv_at hl 0 rfl) ?_
    refine va_get (D := D) (ci := 13) (v := .ref h0_above) (C := R_MM) (T := T_MM) (N := 49) hx hb hg i_MM hown hK hP 0 rfl rfl 21 (by decide) (hg _ k10_67) (fun _ h9 => h9) q_h0_above d_MM_best_88 ?_
    refine lv_iload hx hb d_MM_best_91 (lv_at hl 4 rfl) ?_
    obtain ⟨h9, hF⟩ := chk_some hF
    refine va_lald hx hb hK hP 1 3 rfl rfl (vp_in_iff.mpr h9) d_MM_best_93 ?_
    refine lv_aload_n hx hb d_MM_best_94 rfl (lv_at hl 0 rfl) ?_
    refine va_get (D := D) (ci := 13) (v := .ref h0_below) (C := R_MM) (T := T_MM) (N := 49) hx hb hg i_MM hown hK hP 0 rfl rfl 22 (by decide) (hg _ k10_68) (fun _ h9 => h9) q_h0_below d_MM_best_95 ?_
    refine lv_iload hx hb d_MM_best_98 (lv_at hl 4 rfl) ?_
    obtain ⟨h9, hF⟩ := chk_some hF
    refine va_lald hx hb hK hP 2 3 rfl rfl (vp_in_iff.mpr h9) d_MM_best_100 ?_
    obtain ⟨o1, h1, hF⟩ := bsome hF
    refine zCallv (wc := [(h0, .inr (13, f_h0)), (h0_above, .inl (tA 3, h0_above_n, .inr (.inl h0_above_c))), (h0_below, .inl (tA 3, h0_below_n, .inr (.inl h0_below_c)))]) (wr := []) hP hD hS hA [0, 1, 2] [] rfl rfl (by decide) (by decide) (va_runV (As := [.long (h0_above_c (l4 : Int32).toNatClampNeg), .long (h0_below_c (l4 : Int32).toNatClampNeg)]) (rest := []) ⟨hx, hb, hml, hown, hg⟩ (m_MM_push l D tA _ h0 h0_above h0_below f_h0 h0_above_n h0_below_n (h0_above_c (l4 : Int32).toNatClampNeg) (h0_below_c (l4 : Int32).toNatClampNeg) h0_values h0_above_c h0_below_c q_h0_above q_h0_below q_h0_values o1 h1) (zV 2 hg k11_197 k11_199 ks_MM_push k1_14 k11_200 rfl rfl (by decide +kernel) ⟨(Nat.le_of_ble_eq_true rfl), (Nat.le_of_ble_eq_true rfl)⟩) (zPreV hh hK hP hD [0, 1, 2] (by decide) rfl (ci := 13) rfl 0 rfl) rfl rfl hl.1 rfl (lv_room (Nat.le_of_ble_eq_true rfl)) d_MM_best_101 ⟨(Nat.le_of_ble_eq_true rfl), (Nat.le_of_ble_eq_true rfl)⟩) (fun v1_h0 H1 locs1 e1 hP1 hD1 hS1 => ?_)
    clear hP hD hS
    refine W.cs (cells' := 0) (slots' := 0) rfl rfl ?_
    obtain ⟨r1_h0, q1_h0_values⟩ := e1
    replace hP1 : va_P D vwCl [(h0, .inr (13, v1_h0)), (h0_above, .inl (tA 3, h0_above_n, .inr (.inl o1.2.1))), (h0_below, .inl (tA 3, h0_below_n, .inr (.inl o1.2.2)))] _ := hP1
    replace hD1 : va_D A [(h0, .inr (13, v1_h0)), (h0_above, .inl (tA 3, h0_above_n, .inr (.inl o1.2.1))), (h0_below, .inl (tA 3, h0_below_n, .inr (.inl o1.2.2)))] := hD1
    replace hF := Option.some.inj hF
    subst hF
    exact zVret (post := (fun (u9 : List Value) => Fr [23] f0_h0 u9 ∧ u9[23]? = some (.int ((o1.1, o1.2.1, o1.2.2).1)))) (W1 := (fun (u9 : List Value) => [(h0, .inr (13, u9)), (h0_above, .inl (tA 3, h0_above_n, .inr (.inl ((o1.1, o1.2.1, o1.2.2).2.1)))), (h0_below, .inl (tA 3, h0_below_n, .inr (.inl ((o1.1, o1.2.1, o1.2.2).2.2))))])) hx hb hr hlocks hP1 hD1 hS1 (v1_h0) ⟨(Fr.trans r_h0 (Fr.sub r1_h0 (by decide))), q1_h0_values⟩ rfl d_MM_best_104
  · replace hF := ifn c9 hF
    refine lv_aload_n hx hb d_MM_best_16 rfl (lv_at hl 0 rfl) ?_
    refine va_get (D := D) (ci := 13) (v := .ref h0_above) (C := R_MM) (T := T_MM) (N := 49) hx hb hg i_MM hown hK hP 0 rfl rfl 21 (by decide) (hg _ k10_67) (fun _ h9 => h9) q_h0_above d_MM_best_17 ?_
    refine lv_iload hx hb d_MM_best_20 (lv_at hl 5 rfl) ?_
    obtain ⟨h9, hF⟩ := chk_some hF
    refine va_lald hx hb hK hP 1 3 rfl rfl (vp_in_iff.mpr h9) d_MM_best_22 ?_
    refine lv_aload_n hx hb d_MM_best_23 rfl (lv_at hl 0 rfl) ?_
    refine va_get (D := D) (ci := 13) (v := .ref h0_below) (C := R_MM) (T := T_MM) (N := 49) hx hb hg i_MM hown hK hP 0 rfl rfl 22 (by decide) (hg _ k10_68) (fun _ h9 => h9) q_h0_below d_MM_best_24 ?_
    refine lv_iload hx hb d_MM_best_27 (lv_at hl 4 rfl) ?_
    obtain ⟨h9, hF⟩ := chk_some hF
    refine va_lald hx hb hK hP 2 3 rfl rfl (vp_in_iff.mpr h9) d_MM_best_29 ?_
    refine lv_lmul hx hb d_MM_best_30 ?_
    refine lv_aload_n hx hb d_MM_best_31 rfl (lv_at hl 0 rfl) ?_
    refine va_get (D := D) (ci := 13) (v := .ref h0_above) (C := R_MM) (T := T_MM) (N := 49) hx hb hg i_MM hown hK hP 0 rfl rfl 21 (by decide) (hg _ k10_67) (fun _ h9 => h9) q_h0_above d_MM_best_32 ?_
    refine lv_iload hx hb d_MM_best_35 (lv_at hl 4 rfl) ?_
    obtain ⟨h9, hF⟩ := chk_some hF
    refine va_lald hx hb hK hP 1 3 rfl rfl (vp_in_iff.mpr h9) d_MM_best_37 ?_
    refine lv_aload_n hx hb d_MM_best_38 rfl (lv_at hl 0 rfl) ?_
    refine va_get (D := D) (ci := 13) (v := .ref h0_below) (C := R_MM) (T := T_MM) (N := 49) hx hb hg i_MM hown hK hP 0 rfl rfl 22 (by decide) (hg _ k10_68) (fun _ h9 => h9) q_h0_below d_MM_best_39 ?_
    refine lv_iload hx hb d_MM_best_42 (lv_at hl 5 rfl) ?_
    obtain ⟨h9, hF⟩ := chk_some hF
    refine va_lald hx hb hK hP 2 3 rfl rfl (vp_in_iff.mpr h9) d_MM_best_44 ?_
    refine lv_lmul hx hb d_MM_best_45 ?_
    refine lv_lsub hx hb d_MM_best_46 ?_
    refine lv_lstore (lv' := [(6, .long (((h0_above_c (l5 : Int32).toNatClampNeg) * (h0_below_c (l4 : Int32).toNatClampNeg)) - ((h0_above_c (l4 : Int32).toNatClampNeg) * (h0_below_c (l5 : Int32).toNatClampNeg)))), (0, .ref h0), (1, .int l1), (2, .int l2), (3, .int l3), (4, .int l4), (5, .int l5)]) hx hb d_MM_best_47 hl (by decide) rfl (fun ls hl => ?_)
    refine lv_iload_n hx hb d_MM_best_49 rfl (lv_at hl 2 rfl) ?_
    refine lv_if_eq (tgt := 60) hx hb d_MM_best_50 (by decide) (fun c9 => ?_) (fun c9 => ?_)
    · replace hF := ifp c9 hF
      refine lv_iload_n hx hb d_MM_best_60 rfl (lv_at hl 2 rfl) ?_
      refine lv_if_ne (tgt := 76) hx hb d_MM_best_61 (by decide) (fun c9 => ?_) (fun c9 => ?_)
      · replace hF := ifp c9 hF
        refine lv_iload hx hb d_MM_best_76 (lv_at hl 5 rfl) ?_
        refine lv_istore (lv' := [(4, .int l4), (6, .long (((h0_above_c (l5 : Int32).toNatClampNeg) * (h0_below_c (l4 : Int32).toNatClampNeg)) - ((h0_above_c (l4 : Int32).toNatClampNeg) * (h0_below_c (l5 : Int32).toNatClampNeg)))), (0, .ref h0), (1, .int l1), (2, .int l2), (3, .int l3), (5, .int l5)]) hx hb d_MM_best_78 hl (by decide) rfl (fun ls hl => ?_)
        refine lv_iinc (v := (l5 + Int32.ofInt 1)) (lv' := [(5, .int (l5 + Int32.ofInt 1)), (4, .int l4), (6, .long (((h0_above_c (l5 : Int32).toNatClampNeg) * (h0_below_c (l4 : Int32).toNatClampNeg)) - ((h0_above_c (l4 : Int32).toNatClampNeg) * (h0_below_c (l5 : Int32).toNatClampNeg)))), (0, .ref h0), (1, .int l1), (2, .int l2), (3, .int l3)]) hx hb d_MM_best_80 hl (k := 6) rfl rfl (by decide) rfl (fun ls hl => ?_)
        refine lv_goto (tgt := 8) hx hb d_MM_best_83 (by decide) ?_
        exact ih1 h0_values h0_above_c h0_below_c l4 (l5 + Int32.ofInt 1)  f_h0 _ _ _ hF q_h0_above q_h0_below q_h0_values r_h0 hP hD hS (lv_sub hl [3, 4, 5, 6, 1, 0] rfl)
      · replace hF := ifn (fun h9 => h9 c9) hF
        refine lv_lload hx hb d_MM_best_64 (lv_at hl 0 rfl) ?_
        refine lv_lconst (v := 0) hx hb d_MM_best_66 (by decide) ?_
        refine W.lcmp hx hb d_MM_best_67 ?_
        refine lv_if_le (tgt := 76) hx hb d_MM_best_68 (by decide) (fun c9 => ?_) (fun c9 => ?_)
        · replace hF := ifp c9 hF
          refine lv_iload hx hb d_MM_best_76 (lv_at hl 5 rfl) ?_
          refine lv_istore (lv' := [(4, .int l4), (6, .long (((h0_above_c (l5 : Int32).toNatClampNeg) * (h0_below_c (l4 : Int32).toNatClampNeg)) - ((h0_above_c (l4 : Int32).toNatClampNeg) * (h0_below_c (l5 : Int32).toNatClampNeg)))), (0, .ref h0), (1, .int l1), (2, .int l2), (3, .int l3), (5, .int l5)]) hx hb d_MM_best_78 hl (by decide) rfl (fun ls hl => ?_)
          refine lv_iinc (v := (l5 + Int32.ofInt 1)) (lv' := [(5, .int (l5 + Int32.ofInt 1)), (4, .int l4), (6, .long (((h0_above_c (l5 : Int32).toNatClampNeg) * (h0_below_c (l4 : Int32).toNatClampNeg)) - ((h0_above_c (l4 : Int32).toNatClampNeg) * (h0_below_c (l5 : Int32).toNatClampNeg)))), (0, .ref h0), (1, .int l1), (2, .int l2), (3, .int l3)]) hx hb d_MM_best_80 hl (k := 6) rfl rfl (by decide) rfl (fun ls hl => ?_)
          refine lv_goto (tgt := 8) hx hb d_MM_best_83 (by decide) ?_
          exact ih1 h0_values h0_above_c h0_below_c l4 (l5 + Int32.ofInt 1)  f_h0 _ _ _ hF q_h0_above q_h0_below q_h0_values r_h0 hP hD hS (lv_sub hl [3, 4, 5, 6, 1, 0] rfl)
        · replace hF := ifn c9 hF
          refine lv_iload hx hb d_MM_best_71 (lv_at hl 6 rfl) ?_
          refine lv_goto (tgt := 78) hx hb d_MM_best_73 (by decide) ?_
          refine lv_istore (lv' := [(4, .int l5), (6, .long (((h0_above_c (l5 : Int32).toNatClampNeg) * (h0_below_c (l4 : Int32).toNatClampNeg)) - ((h0_above_c (l4 : Int32).toNatClampNeg) * (h0_below_c (l5 : Int32).toNatClampNeg)))), (0, .ref h0), (1, .int l1), (2, .int l2), (3, .int l3), (5, .int l5)]) hx hb d_MM_best_78 hl (by decide) rfl (fun ls hl => ?_)
          refine lv_iinc (v := (l5 + Int32.ofInt 1)) (lv' := [(5, .int (l5 + Int32.ofInt 1)), (4, .int l5), (6, .long (((h0_above_c (l5 : Int32).toNatClampNeg) * (h0_below_c (l4 : Int32).toNatClampNeg)) - ((h0_above_c (l4 : Int32).toNatClampNeg) * (h0_below_c (l5 : Int32).toNatClampNeg)))), (0, .ref h0), (1, .int l1), (2, .int l2), (3, .int l3)]) hx hb d_MM_best_80 hl (k := 6) rfl rfl (by decide) rfl (fun ls hl => ?_)
          refine lv_goto (tgt := 8) hx hb d_MM_best_83 (by decide) ?_
          exact ih1 h0_values h0_above_c h0_below_c l5 (l5 + Int32.ofInt 1)  f_h0 _ _ _ hF q_h0_above q_h0_below q_h0_values r_h0 hP hD hS (lv_sub hl [3, 4, 5, 6, 1, 0] rfl)
    · replace hF := ifn c9 hF
      refine lv_lload hx hb d_MM_best_53 (lv_at hl 0 rfl) ?_
      refine lv_lconst (v := 0) hx hb d_MM_best_55 (by decide) ?_
      refine W.lcmp hx hb d_MM_best_56 ?_
      refine lv_if_lt (tgt := 71) hx hb d_MM_best_57 (by decide) (fun c9 => ?_) (fun c9 => ?_)
      · replace hF := ifp c9 hF
        refine lv_iload hx hb d_MM_best_71 (lv_at hl 6 rfl) ?_
        refine lv_goto (tgt := 78) hx hb d_MM_best_73 (by decide) ?_
        refine lv_istore (lv' := [(4, .int l5), (6, .long (((h0_above_c (l5 : Int32).toNatClampNeg) * (h0_below_c (l4 : Int32).toNatClampNeg)) - ((h0_above_c (l4 : Int32).toNatClampNeg) * (h0_below_c (l5 : Int32).toNatClampNeg)))), (0, .ref h0), (1, .int l1), (2, .int l2), (3, .int l3), (5, .int l5)]) hx hb d_MM_best_78 hl (by decide) rfl (fun ls hl => ?_)
        refine lv_iinc (v := (l5 + Int32.ofInt 1)) (lv' := [(5, .int (l5 + Int32.ofInt 1)), (4, .int l5), (6, .long (((h0_above_c (l5 : Int32).toNatClampNeg) * (h0_below_c (l4 : Int32).toNatClampNeg)) - ((h0_above_c (l4 : Int32).toNatClampNeg) * (h0_below_c (l5 : Int32).toNatClampNeg)))), (0, .ref h0), (1, .int l1), (2, .int l2), (3, .int l3)]) hx hb d_MM_best_80 hl (k := 6) rfl rfl (by decide) rfl (fun ls hl => ?_)
        refine lv_goto (tgt := 8) hx hb d_MM_best_83 (by decide) ?_
        exact ih1 h0_values h0_above_c h0_below_c l5 (l5 + Int32.ofInt 1)  f_h0 _ _ _ hF q_h0_above q_h0_below q_h0_values r_h0 hP hD hS (lv_sub hl [3, 4, 5, 6, 1, 0] rfl)
      · replace hF := ifn c9 hF
        refine lv_iload_n hx hb d_MM_best_60 rfl (lv_at hl 2 rfl) ?_
        refine lv_if_ne (tgt := 76) hx hb d_MM_best_61 (by decide) (fun c9 => ?_) (fun c9 => ?_)
        · replace hF := ifp c9 hF
          refine lv_iload hx hb d_MM_best_76 (lv_at hl 5 rfl) ?_
          refine lv_istore (lv' := [(4, .int l4), (6, .long (((h0_above_c (l5 : Int32).toNatClampNeg) * (h0_below_c (l4 : Int32).toNatClampNeg)) - ((h0_above_c (l4 : Int32).toNatClampNeg) * (h0_below_c (l5 : Int32).toNatClampNeg)))), (0, .ref h0), (1, .int l1), (2, .int l2), (3, .int l3), (5, .int l5)]) hx hb d_MM_best_78 hl (by decide) rfl (fun ls hl => ?_)
          refine lv_iinc (v := (l5 + Int32.ofInt 1)) (lv' := [(5, .int (l5 + Int32.ofInt 1)), (4, .int l4), (6, .long (((h0_above_c (l5 : Int32).toNatClampNeg) * (h0_below_c (l4 : Int32).toNatClampNeg)) - ((h0_above_c (l4 : Int32).toNatClampNeg) * (h0_below_c (l5 : Int32).toNatClampNeg)))), (0, .ref h0), (1, .int l1), (2, .int l2), (3, .int l3)]) hx hb d_MM_best_80 hl (k := 6) rfl rfl (by decide) rfl (fun ls hl => ?_)
          refine lv_goto (tgt := 8) hx hb d_MM_best_83 (by decide) ?_
          exact ih1 h0_values h0_above_c h0_below_c l4 (l5 + Int32.ofInt 1)  f_h0 _ _ _ hF q_h0_above q_h0_below q_h0_values r_h0 hP hD hS (lv_sub hl [3, 4, 5, 6, 1, 0] rfl)
        · replace hF := ifn (fun h9 => h9 c9) hF
          refine lv_lload hx hb d_MM_best_64 (lv_at hl 0 rfl) ?_
          refine lv_lconst (v := 0) hx hb d_MM_best_66 (by decide) ?_
          refine W.lcmp hx hb d_MM_best_67 ?_
          refine lv_if_le (tgt := 76) hx hb d_MM_best_68 (by decide) (fun c9 => ?_) (fun c9 => ?_)
          · replace hF := ifp c9 hF
            refine lv_iload hx hb d_MM_best_76 (lv_at hl 5 rfl) ?_
            refine lv_istore (lv' := [(4, .int l4), (6, .long (((h0_above_c (l5 : Int32).toNatClampNeg) * (h0_below_c (l4 : Int32).toNatClampNeg)) - ((h0_above_c (l4 : Int32).toNatClampNeg) * (h0_below_c (l5 : Int32).toNatClampNeg)))), (0, .ref h0), (1, .int l1), (2, .int l2), (3, .int l3), (5, .int l5)]) hx hb d_MM_best_78 hl (by decide) rfl (fun ls hl => ?_)
            refine lv_iinc (v := (l5 + Int32.ofInt 1)) (lv' := [(5, .int (l5 + Int32.ofInt 1)), (4, .int l4), (6, .long (((h0_above_c (l5 : Int32).toNatClampNeg) * (h0_below_c (l4 : Int32).toNatClampNeg)) - ((h0_above_c (l4 : Int32).toNatClampNeg) * (h0_below_c (l5 : Int32).toNatClampNeg)))), (0, .ref h0), (1, .int l1), (2, .int l2), (3, .int l3)]) hx hb d_MM_best_80 hl (k := 6) rfl rfl (by decide) rfl (fun ls hl => ?_)
            refine lv_goto (tgt := 8) hx hb d_MM_best_83 (by decide) ?_
            exact ih1 h0_values h0_above_c h0_below_c l4 (l5 + Int32.ofInt 1)  f_h0 _ _ _ hF q_h0_above q_h0_below q_h0_values r_h0 hP hD hS (lv_sub hl [3, 4, 5, 6, 1, 0] rfl)
          · replace hF := ifn c9 hF
            refine lv_iload hx hb d_MM_best_71 (lv_at hl 6 rfl) ?_
            refine lv_goto (tgt := 78) hx hb d_MM_best_73 (by decide) ?_
            refine lv_istore (lv' := [(4, .int l5), (6, .long (((h0_above_c (l5 : Int32).toNatClampNeg) * (h0_below_c (l4 : Int32).toNatClampNeg)) - ((h0_above_c (l4 : Int32).toNatClampNeg) * (h0_below_c (l5 : Int32).toNatClampNeg)))), (0, .ref h0), (1, .int l1), (2, .int l2), (3, .int l3), (5, .int l5)]) hx hb d_MM_best_78 hl (by decide) rfl (fun ls hl => ?_)
            refine lv_iinc (v := (l5 + Int32.ofInt 1)) (lv' := [(5, .int (l5 + Int32.ofInt 1)), (4, .int l5), (6, .long (((h0_above_c (l5 : Int32).toNatClampNeg) * (h0_below_c (l4 : Int32).toNatClampNeg)) - ((h0_above_c (l4 : Int32).toNatClampNeg) * (h0_below_c (l5 : Int32).toNatClampNeg)))), (0, .ref h0), (1, .int l1), (2, .int l2), (3, .int l3)]) hx hb d_MM_best_80 hl (k := 6) rfl rfl (by decide) rfl (fun ls hl => ?_)
            refine lv_goto (tgt := 8) hx hb d_MM_best_83 (by decide) ?_
            exact ih1 h0_values h0_above_c h0_below_c l5 (l5 + Int32.ofInt 1)  f_h0 _ _ _ hF q_h0_above q_h0_below q_h0_values r_h0 hP hD hS (lv_sub hl [3, 4, 5, 6, 1, 0] rfl)
set_option maxHeartbeats 4000000 in
set_option maxRecDepth 100000 in
theorem a_MM_best {p : Program} {l : Launch} {e : Env} {s : State} {m : MethodId} {args : Array Value} {below : List Frame} {meth : Method} {c : Code} {D : va_G} {tA : Nat → ClassId} {A : Nat → Prop} {h0 h0_above h0_below : Nat} {f0_h0 : List Value} {h0_above_n : Nat} {h0_below_n : Nat} {l1 : Int32} {l2 : Int32} {l3 : Int32} {out : Int32 × (Nat → Int64) × (Nat → Int64)} (hx : p.tables.exec = Jvm.exec) (hb : c.code = prog_15_method_61_code) (hr : meth.sig.returnType = (Option.none : Option Jvm.ClassFile.FieldType)) (hml : c.maxLocals = 8) (hh : zH s) (hg : ∀ w ∈ lw_R, w.before args s = true) (hown : s.vm.findClass "ChanceArenaModel" = some m.cls) (hlocks : meth.locks = false) (hK : va_K D vwCl (zT tA) s) (hA : ∀ q, s.heap.size ≤ q → A q) : ∀ n : Nat, (∀ (h0_values : Int32) (h0_above_c : Nat → Int64) (h0_below_c : Nat → Int64) (l4 : Int32) (l5 : Int32) (f_h0 : List Value) (H : Heap) (locs : List Loc) (ls : Array Slot), f_MM_best h0_above_n h0_below_n l1 l2 l3 n 0 h0_values h0_above_c h0_below_c l4 l5 = some out → f_h0[21]? = some (.ref h0_above) → f_h0[22]? = some (.ref h0_below) → f_h0[23]? = some (.int h0_values) → Fr [23] f0_h0 f_h0 → va_P D vwCl [(h0, .inr (13, f_h0)), (h0_above, .inl (tA 3, h0_above_n, .inr (.inl h0_above_c))), (h0_below, .inl (tA 3, h0_below_n, .inr (.inl h0_below_c)))] H → va_D A [(h0, .inr (13, f_h0)), (h0_above, .inl (tA 3, h0_above_n, .inr (.inl h0_above_c))), (h0_below, .inl (tA 3, h0_below_n, .inr (.inl h0_below_c)))] → va_S A s.heap H locs → lv_has ls 8 [(0, .ref h0), (1, .int l1), (2, .int l2), (3, .int l3)] → W p l e { frames := 1, cells := 0, slots := 0, locals := 24 } s m args below meth c H locs 0 0 (MQ below (va_Qv (fun (u9 : List Value) => Fr [23] f0_h0 u9 ∧ u9[23]? = some (.int out.1)) (zPost D A (fun (u9 : List Value) => [(h0, .inr (13, u9)), (h0_above, .inl (tA 3, h0_above_n, .inr (.inl out.2.1))), (h0_below, .inl (tA 3, h0_below_n, .inr (.inl out.2.2)))])) A) args s 0 0 A) (F0 m 0 ls [])) ∧ (∀ (h0_values : Int32) (h0_above_c : Nat → Int64) (h0_below_c : Nat → Int64) (l4 : Int32) (l5 : Int32) (f_h0 : List Value) (H : Heap) (locs : List Loc) (ls : Array Slot), f_MM_best h0_above_n h0_below_n l1 l2 l3 n 1 h0_values h0_above_c h0_below_c l4 l5 = some out → f_h0[21]? = some (.ref h0_above) → f_h0[22]? = some (.ref h0_below) → f_h0[23]? = some (.int h0_values) → Fr [23] f0_h0 f_h0 → va_P D vwCl [(h0, .inr (13, f_h0)), (h0_above, .inl (tA 3, h0_above_n, .inr (.inl h0_above_c))), (h0_below, .inl (tA 3, h0_below_n, .inr (.inl h0_below_c)))] H → va_D A [(h0, .inr (13, f_h0)), (h0_above, .inl (tA 3, h0_above_n, .inr (.inl h0_above_c))), (h0_below, .inl (tA 3, h0_below_n, .inr (.inl h0_below_c)))] → va_S A s.heap H locs → lv_has ls 8 [(0, .ref h0), (1, .int l1), (2, .int l2), (3, .int l3), (4, .int l4), (5, .int l5)] → W p l e { frames := 1, cells := 0, slots := 0, locals := 24 } s m args below meth c H locs 0 0 (MQ below (va_Qv (fun (u9 : List Value) => Fr [23] f0_h0 u9 ∧ u9[23]? = some (.int out.1)) (zPost D A (fun (u9 : List Value) => [(h0, .inr (13, u9)), (h0_above, .inl (tA 3, h0_above_n, .inr (.inl out.2.1))), (h0_below, .inl (tA 3, h0_below_n, .inr (.inl out.2.2)))])) A) args s 0 0 A) (F0 m 8 ls [])) := by
  intro n
  induction n with
  | zero => exact ⟨(fun _ _ _ _ _ _ _ _ _ hF => by rw [z_MM_best] at hF; cases hF), (fun _ _ _ _ _ _ _ _ _ hF => by rw [z_MM_best] at hF; cases hF)⟩
  | succ n ih =>
    obtain ⟨i0, i1⟩ := ih
    exact ⟨b_MM_best_0 hx hb hr hml hh hg hown hlocks hK hA i1, b_MM_best_1 hx hb hr hml hh hg hown hlocks hK hA i1⟩
set_option maxHeartbeats 4000000 in
set_option maxRecDepth 100000 in
theorem m_MM_best (l : Launch) (D : va_G) (tA : Nat → ClassId) (sz : Nat) (h0 h0_above h0_below : Nat) (f0_h0 : List Value) (h0_above_n : Nat) (h0_below_n : Nat) (l1 : Int32) (l2 : Int32) (l3 : Int32) (h0_values : Int32) (h0_above_c : Nat → Int64) (h0_below_c : Nat → Int64) (q_h0_above : f0_h0[21]? = some (.ref h0_above)) (q_h0_below : f0_h0[22]? = some (.ref h0_below)) (q_h0_values : f0_h0[23]? = some (.int h0_values)) (n : Nat) (out : Int32 × (Nat → Int64) × (Nat → Int64)) (hF : f_MM_best h0_above_n h0_below_n l1 l2 l3 n 0 h0_values h0_above_c h0_below_c 0 0 = some out) : zMv l ({ cls := "ChanceArenaModel", name := "best", desc := "(ZII)V" } : Jvm.MethodName) (zW (Jvm.Cond.code ({ cls := "ChanceArenaModel", name := "best", desc := "(ZII)V" } : Jvm.MethodName) prog_15_method_61_code (8 : Nat) (Option.none : Option Jvm.ClassFile.FieldType))) { frames := 1, cells := 0, slots := 0, locals := 24 } [.ref h0, .int l1, .int l2, .int l3] D tA [(h0, .inr (13, f0_h0)), (h0_above, .inl (tA 3, h0_above_n, .inr (.inl h0_above_c))), (h0_below, .inl (tA 3, h0_below_n, .inr (.inl h0_below_c)))] sz (fun (u9 : List Value) => Fr [23] f0_h0 u9 ∧ u9[23]? = some (.int out.1)) (fun (u9 : List Value) => [(h0, .inr (13, u9)), (h0_above, .inl (tA 3, h0_above_n, .inr (.inl out.2.1))), (h0_below, .inl (tA 3, h0_below_n, .inr (.inl out.2.2)))]) 0 0 := by
  refine zOpen (l := l) (y := ({ cls := "ChanceArenaModel", name := "best", desc := "(ZII)V" } : Jvm.MethodName)) (ws := zW (Jvm.Cond.code ({ cls := "ChanceArenaModel", name := "best", desc := "(ZII)V" } : Jvm.MethodName) prog_15_method_61_code (8 : Nat) (Option.none : Option Jvm.ClassFile.FieldType))) (rm := { frames := 1, cells := 0, slots := 0, locals := 24 }) (av := [.ref h0, .int l1, .int l2, .int l3]) (D := D) (tA := tA) (W0 := [(h0, .inr (13, f0_h0)), (h0_above, .inl (tA 3, h0_above_n, .inr (.inl h0_above_c))), (h0_below, .inl (tA 3, h0_below_n, .inr (.inl h0_below_c)))]) (Wm := [(h0, .inr (13, f0_h0)), (h0_above, .inl (tA 3, h0_above_n, .inr (.inl h0_above_c))), (h0_below, .inl (tA 3, h0_below_n, .inr (.inl h0_below_c)))]) (sz := sz) (mc := 0) (ms := 0) (fun A => va_Qv (fun (u9 : List Value) => Fr [23] f0_h0 u9 ∧ u9[23]? = some (.int out.1)) (zPost D A (fun (u9 : List Value) => [(h0, .inr (13, u9)), (h0_above, .inl (tA 3, h0_above_n, .inr (.inl out.2.1))), (h0_below, .inl (tA 3, h0_below_n, .inr (.inl out.2.2)))])) A) (lv := [(0, .ref h0), (1, .int l1), (2, .int l2), (3, .int l3)]) (by decide) rfl (Nat.le_of_ble_eq_true rfl) rfl ?_
  intro p e s m below meth c A ls hx hb hr hml hh hg hown hlocks hnm hK hA hP hD0 hAw hS hl
  have hD := zD hD0 hAw
  exact (a_MM_best hx hb hr hml hh hg hown hlocks hK hA n).1 h0_values h0_above_c h0_below_c 0 0  f0_h0 _ _ _ hF q_h0_above q_h0_below q_h0_values Fr.rfl hP hD hS hl
