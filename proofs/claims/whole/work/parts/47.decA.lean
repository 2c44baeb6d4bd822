theorem k4_30 : (Jvm.Cond.code ({ cls := "ChanceArena$Words", name := "isLetter", desc := "(C)Z" } : Jvm.MethodName) prog_13_method_9_code (1 : Nat) (Option.some Jvm.ClassFile.FieldType.boolean)) ∈ lw_R := zR (zk_4 _ (List.mem_of_getElem? (i := 30) (by decide +kernel))) rfl
theorem k4_35 : (Jvm.Cond.methodLink "ChanceArena$Words" (54 : Nat) ({ cls := "ChanceArena$Words", name := "isDigit", desc := "(C)Z" } : Jvm.MethodName)) ∈ lw_R := zR (zk_4 _ (List.mem_of_getElem? (i := 35) (by decide +kernel))) rfl
theorem k4_36 : (Jvm.Cond.static ({ cls := "ChanceArena$Words", name := "isDigit", desc := "(C)Z" } : Jvm.MethodName)) ∈ lw_R := zR (zk_4 _ (List.mem_of_getElem? (i := 36) (by decide +kernel))) rfl
theorem k4_37 : (Jvm.Cond.code ({ cls := "ChanceArena$Words", name := "isDigit", desc := "(C)Z" } : Jvm.MethodName) prog_13_method_10_code (1 : Nat) (Option.some Jvm.ClassFile.FieldType.boolean)) ∈ lw_R := zR (zk_4 _ (List.mem_of_getElem? (i := 37) (by decide +kernel))) rfl
theorem k4_114 : (Jvm.Cond.code ({ cls := "ChanceArena$Words", name := "takeNumber", desc := "(I)I" } : Jvm.MethodName) prog_13_method_8_code (5 : Nat) (Option.some Jvm.ClassFile.FieldType.int)) ∈ lw_R := zR (zk_4 _ (List.mem_of_getElem? (i := 114) (by decide +kernel))) rfl
theorem k4_160 : (Jvm.Cond.code ({ cls := "ChanceArena$Words", name := "same", desc := "(III)Z" } : Jvm.MethodName) prog_13_method_15_code (5 : Nat) (Option.some Jvm.ClassFile.FieldType.boolean)) ∈ lw_R := zR (zk_4 _ (List.mem_of_getElem? (i := 160) (by decide +kernel))) rfl
theorem d_Wo_isLetter_0 : decode prog_13_method_9_code 0 = .ok (.iload_n 0, 1) := by decide +kernel
theorem d_Wo_isLetter_1 : decode prog_13_method_9_code 1 = .ok (.bipush 97, 2) := by decide +kernel
theorem d_Wo_isLetter_3 : decode prog_13_method_9_code 3 = .ok (.if_icmp .lt 9, 3) := by decide +kernel
theorem d_Wo_isLetter_12 : decode prog_13_method_9_code 12 = .ok (.iload_n 0, 1) := by decide +kernel
theorem d_Wo_isLetter_13 : decode prog_13_method_9_code 13 = .ok (.bipush 65, 2) := by decide +kernel
theorem d_Wo_isLetter_15 : decode prog_13_method_9_code 15 = .ok (.if_icmp .lt 13, 3) := by decide +kernel
theorem d_Wo_isLetter_28 : decode prog_13_method_9_code 28 = .ok (.iconst 0, 1) := by decide +kernel
theorem d_Wo_isLetter_29 : decode prog_13_method_9_code 29 = .ok (.ireturn, 1) := by decide +kernel
theorem d_Wo_isLetter_18 : decode prog_13_method_9_code 18 = .ok (.iload_n 0, 1) := by decide +kernel
theorem d_Wo_isLetter_19 : decode prog_13_method_9_code 19 = .ok (.bipush 90, 2) := by decide +kernel
theorem d_Wo_isLetter_21 : decode prog_13_method_9_code 21 = .ok (.if_icmp .gt 7, 3) := by decide +kernel
theorem d_Wo_isLetter_24 : decode prog_13_method_9_code 24 = .ok (.iconst 1, 1) := by decide +kernel
theorem d_Wo_isLetter_25 : decode prog_13_method_9_code 25 = .ok (.goto 4, 3) := by decide +kernel
theorem d_Wo_isLetter_6 : decode prog_13_method_9_code 6 = .ok (.iload_n 0, 1) := by decide +kernel
theorem d_Wo_isLetter_7 : decode prog_13_method_9_code 7 = .ok (.bipush 122, 2) := by decide +kernel
theorem d_Wo_isLetter_9 : decode prog_13_method_9_code 9 = .ok (.if_icmp .le 15, 3) := by decide +kernel
theorem d_Wo_isDigit_0 : decode prog_13_method_10_code 0 = .ok (.iload_n 0, 1) := by decide +kernel
theorem d_Wo_isDigit_1 : decode prog_13_method_10_code 1 = .ok (.bipush 48, 2) := by decide +kernel
theorem d_Wo_isDigit_3 : decode prog_13_method_10_code 3 = .ok (.if_icmp .lt 13, 3) := by decide +kernel
theorem d_Wo_isDigit_16 : decode prog_13_method_10_code 16 = .ok (.iconst 0, 1) := by decide +kernel
theorem d_Wo_isDigit_17 : decode prog_13_method_10_code 17 = .ok (.ireturn, 1) := by decide +kernel
theorem d_Wo_isDigit_6 : decode prog_13_method_10_code 6 = .ok (.iload_n 0, 1) := by decide +kernel
theorem d_Wo_isDigit_7 : decode prog_13_method_10_code 7 = .ok (.bipush 57, 2) := by decide +kernel
theorem d_Wo_isDigit_9 : decode prog_13_method_10_code 9 = .ok (.if_icmp .gt 7, 3) := by decide +kernel
theorem d_Wo_isDigit_12 : decode prog_13_method_10_code 12 = .ok (.iconst 1, 1) := by decide +kernel
theorem d_Wo_isDigit_13 : decode prog_13_method_10_code 13 = .ok (.goto 4, 3) := by decide +kernel
theorem d_Wo_afterBlanks_12 : decode prog_13_method_5_code 12 = .ok (.aload_n 0, 1) := by decide +kernel
theorem d_Wo_afterBlanks_13 : decode prog_13_method_5_code 13 = .ok (.getfield 9, 3) := by decide +kernel
theorem d_Wo_afterBlanks_16 : decode prog_13_method_5_code 16 = .ok (.iload_n 3, 1) := by decide +kernel
theorem d_Wo_afterBlanks_17 : decode prog_13_method_5_code 17 = .ok (.caload, 1) := by decide +kernel
theorem d_Wo_afterBlanks_18 : decode prog_13_method_5_code 18 = .ok (.istore 4, 2) := by decide +kernel
theorem d_Wo_afterBlanks_20 : decode prog_13_method_5_code 20 = .ok (.iload 4, 2) := by decide +kernel
theorem d_Wo_afterBlanks_22 : decode prog_13_method_5_code 22 = .ok (.bipush 35, 2) := by decide +kernel
theorem d_Wo_afterBlanks_24 : decode prog_13_method_5_code 24 = .ok (.if_icmp .eq 14, 3) := by decide +kernel
theorem d_Wo_afterBlanks_38 : decode prog_13_method_5_code 38 = .ok (.iconst 1, 1) := by decide +kernel
theorem d_Wo_afterBlanks_39 : decode prog_13_method_5_code 39 = .ok (.goto 4, 3) := by decide +kernel
theorem d_Wo_afterBlanks_27 : decode prog_13_method_5_code 27 = .ok (.iload_n 2, 1) := by decide +kernel
theorem d_Wo_afterBlanks_28 : decode prog_13_method_5_code 28 = .ok (.ifCond .eq 14, 3) := by decide +kernel
theorem d_Wo_afterBlanks_42 : decode prog_13_method_5_code 42 = .ok (.iconst 0, 1) := by decide +kernel
theorem d_Wo_afterBlanks_31 : decode prog_13_method_5_code 31 = .ok (.iload 4, 2) := by decide +kernel
theorem d_Wo_afterBlanks_33 : decode prog_13_method_5_code 33 = .ok (.bipush 10, 2) := by decide +kernel
theorem d_Wo_afterBlanks_35 : decode prog_13_method_5_code 35 = .ok (.if_icmp .eq 7, 3) := by decide +kernel
theorem d_Wo_afterBlanks_43 : decode prog_13_method_5_code 43 = .ok (.istore_n 2, 1) := by decide +kernel
theorem d_Wo_afterBlanks_44 : decode prog_13_method_5_code 44 = .ok (.iload_n 2, 1) := by decide +kernel
theorem d_Wo_afterBlanks_45 : decode prog_13_method_5_code 45 = .ok (.ifCond .ne 33, 3) := by decide +kernel
theorem d_Wo_afterBlanks_78 : decode prog_13_method_5_code 78 = .ok (.iinc 3 1, 3) := by decide +kernel
theorem d_Wo_afterBlanks_81 : decode prog_13_method_5_code 81 = .ok (.goto (-77), 3) := by decide +kernel
theorem d_Wo_afterBlanks_48 : decode prog_13_method_5_code 48 = .ok (.iload 4, 2) := by decide +kernel
theorem d_Wo_afterBlanks_50 : decode prog_13_method_5_code 50 = .ok (.bipush 9, 2) := by decide +kernel
theorem d_Wo_afterBlanks_52 : decode prog_13_method_5_code 52 = .ok (.if_icmp .eq 26, 3) := by decide +kernel
theorem d_Wo_afterBlanks_55 : decode prog_13_method_5_code 55 = .ok (.iload 4, 2) := by decide +kernel
theorem d_Wo_afterBlanks_57 : decode prog_13_method_5_code 57 = .ok (.bipush 10, 2) := by decide +kernel
theorem d_Wo_afterBlanks_59 : decode prog_13_method_5_code 59 = .ok (.if_icmp .eq 19, 3) := by decide +kernel
theorem d_Wo_afterBlanks_62 : decode prog_13_method_5_code 62 = .ok (.iload 4, 2) := by decide +kernel
theorem d_Wo_afterBlanks_64 : decode prog_13_method_5_code 64 = .ok (.bipush 13, 2) := by decide +kernel
theorem d_Wo_afterBlanks_66 : decode prog_13_method_5_code 66 = .ok (.if_icmp .eq 12, 3) := by decide +kernel
theorem d_Wo_afterBlanks_69 : decode prog_13_method_5_code 69 = .ok (.iload 4, 2) := by decide +kernel
theorem d_Wo_afterBlanks_71 : decode prog_13_method_5_code 71 = .ok (.bipush 32, 2) := by decide +kernel
theorem d_Wo_afterBlanks_73 : decode prog_13_method_5_code 73 = .ok (.if_icmp .eq 5, 3) := by decide +kernel
theorem d_Wo_afterBlanks_76 : decode prog_13_method_5_code 76 = .ok (.iload_n 3, 1) := by decide +kernel
theorem d_Wo_afterBlanks_77 : decode prog_13_method_5_code 77 = .ok (.ireturn, 1) := by decide +kernel
theorem d_Wo_same_0 : decode prog_13_method_15_code 0 = .ok (.iconst 0, 1) := by decide +kernel
theorem d_Wo_same_1 : decode prog_13_method_15_code 1 = .ok (.istore 4, 2) := by decide +kernel
theorem d_Wo_same_3 : decode prog_13_method_15_code 3 = .ok (.iload 4, 2) := by decide +kernel
theorem d_Wo_same_5 : decode prog_13_method_15_code 5 = .ok (.iload_n 3, 1) := by decide +kernel
theorem d_Wo_same_6 : decode prog_13_method_15_code 6 = .ok (.if_icmp .ge 32, 3) := by decide +kernel
theorem d_Wo_same_38 : decode prog_13_method_15_code 38 = .ok (.iconst 1, 1) := by decide +kernel
theorem d_Wo_same_39 : decode prog_13_method_15_code 39 = .ok (.ireturn, 1) := by decide +kernel
theorem d_Wo_same_9 : decode prog_13_method_15_code 9 = .ok (.aload_n 0, 1) := by decide +kernel
theorem d_Wo_same_10 : decode prog_13_method_15_code 10 = .ok (.getfield 9, 3) := by decide +kernel
theorem d_Wo_same_13 : decode prog_13_method_15_code 13 = .ok (.iload_n 1, 1) := by decide +kernel
theorem d_Wo_same_14 : decode prog_13_method_15_code 14 = .ok (.iload 4, 2) := by decide +kernel
theorem d_Wo_same_16 : decode prog_13_method_15_code 16 = .ok (.iadd, 1) := by decide +kernel
theorem d_Wo_same_17 : decode prog_13_method_15_code 17 = .ok (.caload, 1) := by decide +kernel
theorem d_Wo_same_18 : decode prog_13_method_15_code 18 = .ok (.aload_n 0, 1) := by decide +kernel
theorem d_Wo_same_19 : decode prog_13_method_15_code 19 = .ok (.getfield 9, 3) := by decide +kernel
theorem d_Wo_same_22 : decode prog_13_method_15_code 22 = .ok (.iload_n 2, 1) := by decide +kernel
theorem d_Wo_same_23 : decode prog_13_method_15_code 23 = .ok (.iload 4, 2) := by decide +kernel
theorem d_Wo_same_25 : decode prog_13_method_15_code 25 = .ok (.iadd, 1) := by decide +kernel
theorem d_Wo_same_26 : decode prog_13_method_15_code 26 = .ok (.caload, 1) := by decide +kernel
theorem d_Wo_same_27 : decode prog_13_method_15_code 27 = .ok (.if_icmp .eq 5, 3) := by decide +kernel
theorem d_Wo_same_32 : decode prog_13_method_15_code 32 = .ok (.iinc 4 1, 3) := by decide +kernel
theorem d_Wo_same_35 : decode prog_13_method_15_code 35 = .ok (.goto (-32), 3) := by decide +kernel
theorem d_Wo_same_30 : decode prog_13_method_15_code 30 = .ok (.iconst 0, 1) := by decide +kernel
theorem d_Wo_same_31 : decode prog_13_method_15_code 31 = .ok (.ireturn, 1) := by decide +kernel
theorem d_Wo_takeNumber_0 : decode prog_13_method_8_code 0 = .ok (.iconst 0, 1) := by decide +kernel
theorem d_Wo_takeNumber_1 : decode prog_13_method_8_code 1 = .ok (.istore_n 2, 1) := by decide +kernel
theorem d_Wo_takeNumber_2 : decode prog_13_method_8_code 2 = .ok (.iload_n 1, 1) := by decide +kernel
theorem d_Wo_takeNumber_3 : decode prog_13_method_8_code 3 = .ok (.istore_n 3, 1) := by decide +kernel
theorem d_Wo_takeNumber_4 : decode prog_13_method_8_code 4 = .ok (.iload_n 3, 1) := by decide +kernel
theorem d_Wo_takeNumber_5 : decode prog_13_method_8_code 5 = .ok (.aload_n 0, 1) := by decide +kernel
theorem d_Wo_takeNumber_6 : decode prog_13_method_8_code 6 = .ok (.getfield 25, 3) := by decide +kernel
theorem d_Wo_takeNumber_9 : decode prog_13_method_8_code 9 = .ok (.if_icmp .ge 48, 3) := by decide +kernel
theorem d_Wo_takeNumber_57 : decode prog_13_method_8_code 57 = .ok (.iload_n 3, 1) := by decide +kernel
theorem d_Wo_takeNumber_58 : decode prog_13_method_8_code 58 = .ok (.iload_n 1, 1) := by decide +kernel
theorem d_Wo_takeNumber_59 : decode prog_13_method_8_code 59 = .ok (.isub, 1) := by decide +kernel
theorem d_Wo_takeNumber_60 : decode prog_13_method_8_code 60 = .ok (.bipush 9, 2) := by decide +kernel
theorem d_Wo_takeNumber_62 : decode prog_13_method_8_code 62 = .ok (.if_icmp .gt 7, 3) := by decide +kernel
theorem d_Wo_takeNumber_69 : decode prog_13_method_8_code 69 = .ok (.iconst 0, 1) := by decide +kernel
theorem d_Wo_takeNumber_70 : decode prog_13_method_8_code 70 = .ok (.istore 4, 2) := by decide +kernel
theorem d_Wo_takeNumber_72 : decode prog_13_method_8_code 72 = .ok (.aload_n 0, 1) := by decide +kernel
theorem d_Wo_takeNumber_73 : decode prog_13_method_8_code 73 = .ok (.iload 4, 2) := by decide +kernel
theorem d_Wo_takeNumber_75 : decode prog_13_method_8_code 75 = .ok (.ifCond .eq 7, 3) := by decide +kernel
theorem d_Wo_takeNumber_82 : decode prog_13_method_8_code 82 = .ok (.iconst 1, 1) := by decide +kernel
theorem d_Wo_takeNumber_83 : decode prog_13_method_8_code 83 = .ok (.iload_n 1, 1) := by decide +kernel
theorem d_Wo_takeNumber_84 : decode prog_13_method_8_code 84 = .ok (.iload_n 2, 1) := by decide +kernel
theorem d_Wo_takeNumber_85 : decode prog_13_method_8_code 85 = .ok (.invokevirtual 43, 3) := by decide +kernel
theorem d_Wo_takeNumber_88 : decode prog_13_method_8_code 88 = .ok (.iload 4, 2) := by decide +kernel
theorem d_Wo_takeNumber_90 : decode prog_13_method_8_code 90 = .ok (.ifCond .eq 7, 3) := by decide +kernel
theorem d_Wo_takeNumber_97 : decode prog_13_method_8_code 97 = .ok (.aload_n 0, 1) := by decide +kernel
theorem d_Wo_takeNumber_98 : decode prog_13_method_8_code 98 = .ok (.getfield 25, 3) := by decide +kernel
theorem d_Wo_takeNumber_101 : decode prog_13_method_8_code 101 = .ok (.ireturn, 1) := by decide +kernel
theorem d_Wo_takeNumber_65 : decode prog_13_method_8_code 65 = .ok (.iconst 1, 1) := by decide +kernel
theorem d_Wo_takeNumber_66 : decode prog_13_method_8_code 66 = .ok (.goto 4, 3) := by decide +kernel
theorem d_Wo_takeNumber_78 : decode prog_13_method_8_code 78 = .ok (.iconst 3, 1) := by decide +kernel
theorem d_Wo_takeNumber_79 : decode prog_13_method_8_code 79 = .ok (.goto 4, 3) := by decide +kernel
theorem d_Wo_takeNumber_93 : decode prog_13_method_8_code 93 = .ok (.iload_n 3, 1) := by decide +kernel
theorem d_Wo_takeNumber_94 : decode prog_13_method_8_code 94 = .ok (.goto 7, 3) := by decide +kernel
theorem d_Wo_takeNumber_12 : decode prog_13_method_8_code 12 = .ok (.aload_n 0, 1) := by decide +kernel
theorem d_Wo_takeNumber_13 : decode prog_13_method_8_code 13 = .ok (.getfield 9, 3) := by decide +kernel
theorem d_Wo_takeNumber_16 : decode prog_13_method_8_code 16 = .ok (.iload_n 3, 1) := by decide +kernel
theorem d_Wo_takeNumber_17 : decode prog_13_method_8_code 17 = .ok (.caload, 1) := by decide +kernel
theorem d_Wo_takeNumber_18 : decode prog_13_method_8_code 18 = .ok (.invokestatic 54, 3) := by decide +kernel
theorem d_Wo_takeNumber_21 : decode prog_13_method_8_code 21 = .ok (.ifCond .eq 36, 3) := by decide +kernel
theorem d_Wo_takeNumber_24 : decode prog_13_method_8_code 24 = .ok (.iload_n 3, 1) := by decide +kernel
theorem d_Wo_takeNumber_25 : decode prog_13_method_8_code 25 = .ok (.iload_n 1, 1) := by decide +kernel
theorem d_Wo_takeNumber_26 : decode prog_13_method_8_code 26 = .ok (.isub, 1) := by decide +kernel
theorem d_Wo_takeNumber_27 : decode prog_13_method_8_code 27 = .ok (.bipush 9, 2) := by decide +kernel
theorem d_Wo_takeNumber_29 : decode prog_13_method_8_code 29 = .ok (.if_icmp .ge 20, 3) := by decide +kernel
theorem d_Wo_takeNumber_49 : decode prog_13_method_8_code 49 = .ok (.iconst 0, 1) := by decide +kernel
theorem d_Wo_takeNumber_50 : decode prog_13_method_8_code 50 = .ok (.istore_n 2, 1) := by decide +kernel
theorem d_Wo_takeNumber_51 : decode prog_13_method_8_code 51 = .ok (.iinc 3 1, 3) := by decide +kernel
theorem d_Wo_takeNumber_54 : decode prog_13_method_8_code 54 = .ok (.goto (-50), 3) := by decide +kernel
theorem d_Wo_takeNumber_32 : decode prog_13_method_8_code 32 = .ok (.bipush 10, 2) := by decide +kernel
theorem d_Wo_takeNumber_34 : decode prog_13_method_8_code 34 = .ok (.iload_n 2, 1) := by decide +kernel
theorem d_Wo_takeNumber_35 : decode prog_13_method_8_code 35 = .ok (.imul, 1) := by decide +kernel
theorem d_Wo_takeNumber_36 : decode prog_13_method_8_code 36 = .ok (.aload_n 0, 1) := by decide +kernel
theorem d_Wo_takeNumber_37 : decode prog_13_method_8_code 37 = .ok (.getfield 9, 3) := by decide +kernel
theorem d_Wo_takeNumber_40 : decode prog_13_method_8_code 40 = .ok (.iload_n 3, 1) := by decide +kernel
theorem d_Wo_takeNumber_41 : decode prog_13_method_8_code 41 = .ok (.caload, 1) := by decide +kernel
theorem d_Wo_takeNumber_42 : decode prog_13_method_8_code 42 = .ok (.bipush 48, 2) := by decide +kernel
theorem d_Wo_takeNumber_44 : decode prog_13_method_8_code 44 = .ok (.isub, 1) := by decide +kernel
theorem d_Wo_takeNumber_45 : decode prog_13_method_8_code 45 = .ok (.iadd, 1) := by decide +kernel
theorem d_Wo_takeNumber_46 : decode prog_13_method_8_code 46 = .ok (.goto 4, 3) := by decide +kernel
def f_Wo_isLetter (l0 : Int32) : Option (Int32) := if (l0 : Int32) < 97 then (if (l0 : Int32) < 65 then some (0) else if (90 : Int32) < l0 then some (0) else some (1)) else if (l0 : Int32) ≤ 122 then some (1) else if (l0 : Int32) < 65 then some (0) else if (90 : Int32) < l0 then some (0) else some (1)
set_option maxHeartbeats 4000000 in
set_option maxRecDepth 100000 in
theorem b_Wo_isLetter_0 {p : Program} {l : Launch} {e : Env} {s : State} {m : MethodId} {args : Array Value} {below : List Frame} {meth : Method} {c : Code} {D : va_G} {tA : Nat → ClassId} {A : Nat → Prop} {l0 : Int32} {out : Int32} (hx : p.tables.exec = Jvm.exec) (hb : c.code = prog_13_method_9_code) (hr : meth.sig.returnType = (Option.some Jvm.ClassFile.FieldType.boolean)) (hml : c.maxLocals = 1) (hh : zH s) (hg : ∀ w ∈ lw_R, w.before args s = true) (hown : s.vm.findClass "ChanceArena$Words" = some m.cls) (hlocks : meth.locks = false) (hK : va_K D vwCl (zT tA) s) (hA : ∀ q, s.heap.size ≤ q → A q)  : ∀ (H : Heap) (locs : List Loc) (ls : Array Slot), f_Wo_isLetter l0 = some out → va_P D vwCl [] H → va_D A [] → va_S A s.heap H locs → lv_has ls 1 [(0, .int l0)] → W p l e { frames := 0, cells := 0, slots := 0, locals := 0 } s m args below meth c H locs 0 0 (MQ below (va_Qi (fun (r9 : Int32) (u9 : Unit) => r9 = out) (zPost D A (fun (u9 : Unit) => [])) A) args s 0 0 A) (F0 m 0 ls []) := by
  intro    H locs ls hF  hP hD hS hl
  replace hF : ((if (l0 : Int32) < 97 then (if (l0 : Int32) < 65 then some (0) else if (90 : Int32) < l0 then some (0) else some (1)) else if (l0 : Int32) ≤ 122 then some (1) else if (l0 : Int32) < 65 then some (0) else if (90 : Int32) < l0 then some (0) else some (1)) : Option (Int32)) = some out := hF
  refine lv_iload_n hx hb d_Wo_isLetter_0 rfl (lv_at hl 0 rfl) ?_
  refine lv_bipush (v := 97) hx hb d_Wo_isLetter_1 (by decide) ?_
  refine lv_icmp_lt (tgt := 12) hx hb d_Wo_isLetter_3 (by decide) (fun c9 => ?_) (fun c9 => ?_)
  · replace hF := ifp c9 hF
    refine lv_iload_n hx hb d_Wo_isLetter_12 rfl (lv_at hl 0 rfl) ?_
    refine lv_bipush (v := 65) hx hb d_Wo_isLetter_13 (by decide) ?_
    refine lv_icmp_lt (tgt := 28) hx hb d_Wo_isLetter_15 (by decide) (fun c9 => ?_) (fun c9 => ?_)
    · replace hF := ifp c9 hF
      refine lv_iconst (v := 0) hx hb d_Wo_isLetter_28 (by decide) ?_
      replace hF := Option.some.inj hF
      subst hF
      exact zZret (post := (fun (r9 : Int32) (u9 : Unit) => r9 = 0)) (W1 := (fun (u9 : Unit) => [])) (v := 0) hx hb hr rfl hlocks hP hD hS () rfl rfl d_Wo_isLetter_29
    · replace hF := ifn c9 hF
      refine lv_iload_n hx hb d_Wo_isLetter_18 rfl (lv_at hl 0 rfl) ?_
      refine lv_bipush (v := 90) hx hb d_Wo_isLetter_19 (by decide) ?_
      refine lv_icmp_gt (tgt := 28) hx hb d_Wo_isLetter_21 (by decide) (fun c9 => ?_) (fun c9 => ?_)
      · replace hF := ifp c9 hF
        refine lv_iconst (v := 0) hx hb d_Wo_isLetter_28 (by decide) ?_
        replace hF := Option.some.inj hF
        subst hF
        exact zZret (post := (fun (r9 : Int32) (u9 : Unit) => r9 = 0)) (W1 := (fun (u9 : Unit) => [])) (v := 0) hx hb hr rfl hlocks hP hD hS () rfl rfl d_Wo_isLetter_29
      · replace hF := ifn c9 hF
        refine lv_iconst (v := 1) hx hb d_Wo_isLetter_24 (by decide) ?_
        refine lv_goto (tgt := 29) hx hb d_Wo_isLetter_25 (by decide) ?_
        replace hF := Option.some.inj hF
        subst hF
        exact zZret (post := (fun (r9 : Int32) (u9 : Unit) => r9 = 1)) (W1 := (fun (u9 : Unit) => [])) (v := 1) hx hb hr rfl hlocks hP hD hS () rfl rfl d_Wo_isLetter_29
  · replace hF := ifn c9 hF
    refine lv_iload_n hx hb d_Wo_isLetter_6 rfl (lv_at hl 0 rfl) ?_
    refine lv_bipush (v := 122) hx hb d_Wo_isLetter_7 (by decide) ?_
    refine lv_icmp_le (tgt := 24) hx hb d_Wo_isLetter_9 (by decide) (fun c9 => ?_) (fun c9 => ?_)
    · replace hF := ifp c9 hF
      refine lv_iconst (v := 1) hx hb d_Wo_isLetter_24 (by decide) ?_
      refine lv_goto (tgt := 29) hx hb d_Wo_isLetter_25 (by decide) ?_
      replace hF := Option.some.inj hF
      subst hF
      exact zZret (post := (fun (r9 : Int32) (u9 : Unit) => r9 = 1)) (W1 := (fun (u9 : Unit) => [])) (v := 1) hx hb hr rfl hlocks hP hD hS () rfl rfl d_Wo_isLetter_29
    · replace hF := ifn c9 hF
      refine lv_iload_n hx hb d_Wo_isLetter_12 rfl (lv_at hl 0 rfl) ?_
      refine lv_bipush (v := 65) hx hb d_Wo_isLetter_13 (by decide) ?_
      refine lv_icmp_lt (tgt := 28) hx hb d_Wo_isLetter_15 (by decide) (fun c9 => ?_) (fun c9 => ?_)
      · replace hF := ifp c9 hF
        refine lv_iconst (v := 0) hx hb d_Wo_isLetter_28 (by decide) ?_
        replace hF := Option.some.inj hF
        subst hF
        exact zZret (post := (fun (r9 : Int32) (u9 : Unit) => r9 = 0)) (W1 := (fun (u9 : Unit) => [])) (v := 0) hx hb hr rfl hlocks hP hD hS () rfl rfl d_Wo_isLetter_29
      · replace hF := ifn c9 hF
        refine lv_iload_n hx hb d_Wo_isLetter_18 rfl (lv_at hl 0 rfl) ?_
        refine lv_bipush (v := 90) hx hb d_Wo_isLetter_19 (by decide) ?_
        refine lv_icmp_gt (tgt := 28) hx hb d_Wo_isLetter_21 (by decide) (fun c9 => ?_) (fun c9 => ?_)
        · replace hF := ifp c9 hF
          refine lv_iconst (v := 0) hx hb d_Wo_isLetter_28 (by decide) ?_
          replace hF := Option.some.inj hF
          subst hF
          exact zZret (post := (fun (r9 : Int32) (u9 : Unit) => r9 = 0)) (W1 := (fun (u9 : Unit) => [])) (v := 0) hx hb hr rfl hlocks hP hD hS () rfl rfl d_Wo_isLetter_29
        · replace hF := ifn c9 hF
          refine lv_iconst (v := 1) hx hb d_Wo_isLetter_24 (by decide) ?_
          refine lv_goto (tgt := 29) hx hb d_Wo_isLetter_25 (by decide) ?_
          replace hF := Option.some.inj hF
          subst hF
          exact zZret (post := (fun (r9 : Int32) (u9 : Unit) => r9 = 1)) (W1 := (fun (u9 : Unit) => [])) (v := 1) hx hb hr rfl hlocks hP hD hS () rfl rfl d_Wo_isLetter_29
set_option maxHeartbeats 4000000 in
set_option maxRecDepth 100000 in
theorem m_Wo_isLetter (l : Launch) (D : va_G) (tA : Nat → ClassId) (sz : Nat) (l0 : Int32) (out : Int32) (hF : f_Wo_isLetter l0 = some out) : zMi l ({ cls := "ChanceArena$Words", name := "isLetter", desc := "(C)Z" } : Jvm.MethodName) (zW (Jvm.Cond.code ({ cls := "ChanceArena$Words", name := "isLetter", desc := "(C)Z" } : Jvm.MethodName) prog_13_method_9_code (1 : Nat) (Option.some Jvm.ClassFile.FieldType.boolean))) { frames := 0, cells := 0, slots := 0, locals := 0 } [.int l0] D tA [] sz (fun (r9 : Int32) (u9 : Unit) => r9 = out) (fun (u9 : Unit) => []) 0 0 := by
  refine zOpen (l := l) (y := ({ cls := "ChanceArena$Words", name := "isLetter", desc := "(C)Z" } : Jvm.MethodName)) (ws := zW (Jvm.Cond.code ({ cls := "ChanceArena$Words", name := "isLetter", desc := "(C)Z" } : Jvm.MethodName) prog_13_method_9_code (1 : Nat) (Option.some Jvm.ClassFile.FieldType.boolean))) (rm := { frames := 0, cells := 0, slots := 0, locals := 0 }) (av := [.int l0]) (D := D) (tA := tA) (W0 := []) (Wm := []) (sz := sz) (mc := 0) (ms := 0) (fun A => va_Qi (fun (r9 : Int32) (u9 : Unit) => r9 = out) (zPost D A (fun (u9 : Unit) => [])) A) (lv := [(0, .int l0)]) (by decide) rfl (Nat.le_of_ble_eq_true rfl) rfl ?_
  intro p e s m below meth c A ls hx hb hr hml hh hg hown hlocks hnm hK hA hP hD0 hAw hS hl
  have hD := zD hD0 hAw
  exact b_Wo_isLetter_0 hx hb hr hml hh hg hown hlocks hK hA    _ _ _ hF  hP hD hS hl
def f_Wo_isDigit (l0 : Int32) : Option (Int32) := if (l0 : Int32) < 48 then some (0) else if (57 : Int32) < l0 then some (0) else some (1)
set_option maxHeartbeats 4000000 in
set_option maxRecDepth 100000 in
theorem b_Wo_isDigit_0 {p : Program} {l : Launch} {e : Env} {s : State} {m : MethodId} {args : Array Value} {below : List Frame} {meth : Method} {c : Code} {D : va_G} {tA : Nat → ClassId} {A : Nat → Prop} {l0 : Int32} {out : Int32} (hx : p.tables.exec = Jvm.exec) (hb : c.code = prog_13_method_10_code) (hr : meth.sig.returnType = (Option.some Jvm.ClassFile.FieldType.boolean)) (hml : c.maxLocals = 1) (hh : zH s) (hg : ∀ w ∈ lw_R, w.before args s = true) (hown : s.vm.findClass "ChanceArena$Words" = some m.cls) (hlocks : meth.locks = false) (hK : va_K D vwCl (zT tA) s) (hA : ∀ q, s.heap.size ≤ q → A q)  : ∀ (H : Heap) (locs : List Loc) (ls : Array Slot), f_Wo_isDigit l0 = some out → va_P D vwCl [] H → va_D A [] → va_S A s.heap H locs → lv_has ls 1 [(0, .int l0)] → W p l e { frames := 0, cells := 0, slots := 0, locals := 0 } s m args below meth c H locs 0 0 (MQ below (va_Qi (fun (r9 : Int32) (u9 : Unit) => r9 = out) (zPost D A (fun (u9 : Unit) => [])) A) args s 0 0 A) (F0 m 0 ls []) := by
  intro    H locs ls hF  hP hD hS hl
  replace hF : ((if (l0 : Int32) < 48 then some (0) else if (57 : Int32) < l0 then some (0) else some (1)) : Option (Int32)) = some out := hF
  refine lv_iload_n hx hb d_Wo_isDigit_0 rfl (lv_at hl 0 rfl) ?_
  refine lv_bipush (v := 48) hx hb d_Wo_isDigit_1 (by decide) ?_
  refine lv_icmp_lt (tgt := 16) hx hb d_Wo_isDigit_3 (by decide) (fun c9 => ?_) (fun c9 => ?_)
  · replace hF := ifp c9 hF
    refine lv_iconst (v := 0) hx hb d_Wo_isDigit_16 (by decide) ?_
    replace hF := Option.some.inj hF
    subst hF
    exact zZret (post := (fun (r9 : Int32) (u9 : Unit) => r9 = 0)) (W1 := (fun (u9 : Unit) => [])) (v := 0) hx hb hr rfl hlocks hP hD hS () rfl rfl d_Wo_isDigit_17
  · replace hF := ifn c9 hF
    refine lv_iload_n hx hb d_Wo_isDigit_6 rfl (lv_at hl 0 rfl) ?_
    refine lv_bipush (v := 57) hx hb d_Wo_isDigit_7 (by decide) ?_
    refine lv_icmp_gt (tgt := 16) hx hb d_Wo_isDigit_9 (by decide) (fun c9 => ?_) (fun c9 => ?_)
    · replace hF := ifp c9 hF
      refine lv_iconst (v := 0) hx hb d_Wo_isDigit_16 (by decide) ?_
      replace hF := Option.some.inj hF
      subst hF
      exact zZret (post := (fun (r9 : Int32) (u9 : Unit) => r9 = 0)) (W1 := (fun (u9 : Unit) => [])) (v := 0) hx hb hr rfl hlocks hP hD hS () rfl rfl d_Wo_isDigit_17
    · replace hF := ifn c9 hF
      refine lv_iconst (v := 1) hx hb d_Wo_isDigit_12 (by decide) ?_
      refine lv_goto (tgt := 17) hx hb d_Wo_isDigit_13 (by decide) ?_
      replace hF := Option.some.inj hF
      subst hF
      exact zZret (post := (fun (r9 : Int32) (u9 : Unit) => r9 = 1)) (W1 := (fun (u9 : Unit) => [])) (v := 1) hx hb hr rfl hlocks hP hD hS () rfl rfl d_Wo_isDigit_17
set_option maxHeartbeats 4000000 in
set_option maxRecDepth 100000 in
theorem m_Wo_isDigit (l : Launch) (D : va_G) (tA : Nat → ClassId) (sz : Nat) (l0 : Int32) (out : Int32) (hF : f_Wo_isDigit l0 = some out) : zMi l ({ cls := "ChanceArena$Words", name := "isDigit", desc := "(C)Z" } : Jvm.MethodName) (zW (Jvm.Cond.code ({ cls := "ChanceArena$Words", name := "isDigit", desc := "(C)Z" } : Jvm.MethodName) prog_13_method_10_code (1 : Nat) (Option.some Jvm.ClassFile.FieldType.boolean))) { frames := 0, cells := 0, slots := 0, locals := 0 } [.int l0] D tA [] sz (fun (r9 : Int32) (u9 : Unit) => r9 = out) (fun (u9 : Unit) => []) 0 0 := by
  refine zOpen (l := l) (y := ({ cls := "ChanceArena$Words", name := "isDigit", desc := "(C)Z" } : Jvm.MethodName)) (ws := zW (Jvm.Cond.code ({ cls := "ChanceArena$Words", name := "isDigit", desc := "(C)Z" } : Jvm.MethodName) prog_13_method_10_code (1 : Nat) (Option.some Jvm.ClassFile.FieldType.boolean))) (rm := { frames := 0, cells := 0, slots := 0, locals := 0 }) (av := [.int l0]) (D := D) (tA := tA) (W0 := []) (Wm := []) (sz := sz) (mc := 0) (ms := 0) (fun A => va_Qi (fun (r9 : Int32) (u9 : Unit) => r9 = out) (zPost D A (fun (u9 : Unit) => [])) A) (lv := [(0, .int l0)]) (by decide) rfl (Nat.le_of_ble_eq_true rfl) rfl ?_
  intro p e s m below meth c A ls hx hb hr hml hh hg hown hlocks hnm hK hA hP hD0 hAw hS hl
  have hD := zD hD0 hAw
  exact b_Wo_isDigit_0 hx hb hr hml hh hg hown hlocks hK hA    _ _ _ hF  hP hD hS hl
def f_Wo_afterBlanks (h0_tape_n : Nat) (l1 : Int32) (h0_length : Int32) (h0_tape_c : Nat → Int32) : Nat → Nat → Int32 → Int32 → Int32 → Int32 → Option (Int32)
  | 0, _, _, _, _, _ => none
  | n + 1, 0, l2, l3, l4, k0 => chk True (f_Wo_afterBlanks h0_tape_n l1 h0_length h0_tape_c n 1 0 l1 0 0)
  | n + 1, 1, l2, l3, l4, k0 => if (h0_length : Int32) ≤ l3 then some (h0_length) else chk (0 ≤ (l3 : Int32).toInt ∧ (l3 : Int32).toInt < h0_tape_n) (if ((h0_tape_c (l3 : Int32).toNatClampNeg) : Int32) = 35 then f_Wo_afterBlanks h0_tape_n l1 h0_length h0_tape_c n 2 l2 l3 (h0_tape_c (l3 : Int32).toNatClampNeg) 1 else if (l2 : Int32) = 0 then f_Wo_afterBlanks h0_tape_n l1 h0_length h0_tape_c n 2 l2 l3 (h0_tape_c (l3 : Int32).toNatClampNeg) 0 else if ((h0_tape_c (l3 : Int32).toNatClampNeg) : Int32) = 10 then f_Wo_afterBlanks h0_tape_n l1 h0_length h0_tape_c n 2 l2 l3 (h0_tape_c (l3 : Int32).toNatClampNeg) 0 else f_Wo_afterBlanks h0_tape_n l1 h0_length h0_tape_c n 2 l2 l3 (h0_tape_c (l3 : Int32).toNatClampNeg) 1)
  | n + 1, 2, l2, l3, l4, k0 => if ¬ (k0 : Int32) = 0 then f_Wo_afterBlanks h0_tape_n l1 h0_length h0_tape_c n 1 k0 (l3 + Int32.ofInt 1) 0 0 else if (l4 : Int32) = 9 then f_Wo_afterBlanks h0_tape_n l1 h0_length h0_tape_c n 1 k0 (l3 + Int32.ofInt 1) 0 0 else if (l4 : Int32) = 10 then f_Wo_afterBlanks h0_tape_n l1 h0_length h0_tape_c n 1 k0 (l3 + Int32.ofInt 1) 0 0 else if (l4 : Int32) = 13 then f_Wo_afterBlanks h0_tape_n l1 h0_length h0_tape_c n 1 k0 (l3 + Int32.ofInt 1) 0 0 else if (l4 : Int32) = 32 then f_Wo_afterBlanks h0_tape_n l1 h0_length h0_tape_c n 1 k0 (l3 + Int32.ofInt 1) 0 0 else some (l3)
  | _ + 1, _ + 3, _, _, _, _ => none
theorem e_Wo_afterBlanks_0 (h0_tape_n : Nat) (l1 : Int32) (h0_length : Int32) (h0_tape_c : Nat → Int32) (n : Nat) (l2 : Int32) (l3 : Int32) (l4 : Int32) (k0 : Int32) : f_Wo_afterBlanks h0_tape_n l1 h0_length h0_tape_c (n + 1) 0 l2 l3 l4 k0 = chk True (f_Wo_afterBlanks h0_tape_n l1 h0_length h0_tape_c n 1 0 l1 0 0) := by rw [f_Wo_afterBlanks]
theorem e_Wo_afterBlanks_1 (h0_tape_n : Nat) (l1 : Int32) (h0_length : Int32) (h0_tape_c : Nat → Int32) (n : Nat) (l2 : Int32) (l3 : Int32) (l4 : Int32) (k0 : Int32) : f_Wo_afterBlanks h0_tape_n l1 h0_length h0_tape_c (n + 1) 1 l2 l3 l4 k0 = if (h0_length : Int32) ≤ l3 then some (h0_length) else chk (0 ≤ (l3 : Int32).toInt ∧ (l3 : Int32).toInt < h0_tape_n) (if ((h0_tape_c (l3 : Int32).toNatClampNeg) : Int32) = 35 then f_Wo_afterBlanks h0_tape_n l1 h0_length h0_tape_c n 2 l2 l3 (h0_tape_c (l3 : Int32).toNatClampNeg) 1 else if (l2 : Int32) = 0 then f_Wo_afterBlanks h0_tape_n l1 h0_length h0_tape_c n 2 l2 l3 (h0_tape_c (l3 : Int32).toNatClampNeg) 0 else if ((h0_tape_c (l3 : Int32).toNatClampNeg) : Int32) = 10 then f_Wo_afterBlanks h0_tape_n l1 h0_length h0_tape_c n 2 l2 l3 (h0_tape_c (l3 : Int32).toNatClampNeg) 0 else f_Wo_afterBlanks h0_tape_n l1 h0_length h0_tape_c n 2 l2 l3 (h0_tape_c (l3 : Int32).toNatClampNeg) 1) := by rw [f_Wo_afterBlanks]
theorem e_Wo_afterBlanks_2 (h0_tape_n : Nat) (l1 : Int32) (h0_length : Int32) (h0_tape_c : Nat → Int32) (n : Nat) (l2 : Int32) (l3 : Int32) (l4 : Int32) (k0 : Int32) : f_Wo_afterBlanks h0_tape_n l1 h0_length h0_tape_c (n + 1) 2 l2 l3 l4 k0 = if ¬ (k0 : Int32) = 0 then f_Wo_afterBlanks h0_tape_n l1 h0_length h0_tape_c n 1 k0 (l3 + Int32.ofInt 1) 0 0 else if (l4 : Int32) = 9 then f_Wo_afterBlanks h0_tape_n l1 h0_length h0_tape_c n 1 k0 (l3 + Int32.ofInt 1) 0 0 else if (l4 : Int32) = 10 then f_Wo_afterBlanks h0_tape_n l1 h0_length h0_tape_c n 1 k0 (l3 + Int32.ofInt 1) 0 0 else if (l4 : Int32) = 13 then f_Wo_afterBlanks h0_tape_n l1 h0_length h0_tape_c n 1 k0 (l3 + Int32.ofInt 1) 0 0 else if (l4 : Int32) = 32 then f_Wo_afterBlanks h0_tape_n l1 h0_length h0_tape_c n 1 k0 (l3 + Int32.ofInt 1) 0 0 else some (l3) := by rw [f_Wo_afterBlanks]
theorem z_Wo_afterBlanks (h0_tape_n : Nat) (l1 : Int32) (h0_length : Int32) (h0_tape_c : Nat → Int32) (h : Nat) (l2 : Int32) (l3 : Int32) (l4 : Int32) (k0 : Int32) : f_Wo_afterBlanks h0_tape_n l1 h0_length h0_tape_c 0 h l2 l3 l4 k0 = none := by rw [f_Wo_afterBlanks]
set_option maxHeartbeats 4000000 in
set_option maxRecDepth 100000 in
theorem b_Wo_afterBlanks_0 {p : Program} {l : Launch} {e : Env} {s : State} {m : MethodId} {args : Array Value} {below : List Frame} {meth : Method} {c : Code} {D : va_G} {tA : Nat → ClassId} {A : Nat → Prop} {h0 h0_tape : Nat} {f0_h0 : List Value} {h0_tape_n : Nat} {l1 : Int32} {h0_length : Int32} {h0_tape_c : Nat → Int32} {out : Int32} (hx : p.tables.exec = Jvm.exec) (hb : c.code = prog_13_method_5_code) (hr : meth.sig.returnType = (Option.some Jvm.ClassFile.FieldType.int)) (hml : c.maxLocals = 5) (hh : zH s) (hg : ∀ w ∈ lw_R, w.before args s = true) (hown : s.vm.findClass "ChanceArena$Words" = some m.cls) (hlocks : meth.locks = false) (hK : va_K D vwCl (zT tA) s) (hA : ∀ q, s.heap.size ≤ q → A q) {n : Nat} (ih1 : ∀ (l2 : Int32) (l3 : Int32) (l4 : Int32) (k0 : Int32) (H : Heap) (locs : List Loc) (ls : Array Slot), f_Wo_afterBlanks h0_tape_n l1 h0_length h0_tape_c n 1 l2 l3 l4 k0 = some out → f0_h0[0]? = some (.ref h0_tape) → f0_h0[1]? = some (.int h0_length) → va_P D vwCl [(h0, .inr (1, f0_h0)), (h0_tape, .inl (tA 2, h0_tape_n, .inl h0_tape_c))] H → va_D A [(h0, .inr (1, f0_h0)), (h0_tape, .inl (tA 2, h0_tape_n, .inl h0_tape_c))] → va_S A s.heap H locs → lv_has ls 5 [(0, .ref h0), (1, .int l1), (2, .int l2), (3, .int l3)] → W p l e { frames := 0, cells := 0, slots := 0, locals := 0 } s m args below meth c H locs 0 0 (MQ below (va_Qi (fun (r9 : Int32) (u9 : Unit) => r9 = out) (zPost D A (fun (u9 : Unit) => [(h0, .inr (1, f0_h0)), (h0_tape, .inl (tA 2, h0_tape_n, .inl h0_tape_c))])) A) args s 0 0 A) (F0 m 4 ls [])) : ∀ (l2 : Int32) (l3 : Int32) (l4 : Int32) (k0 : Int32) (H : Heap) (locs : List Loc) (ls : Array Slot), f_Wo_afterBlanks h0_tape_n l1 h0_length h0_tape_c (n + 1) 0 l2 l3 l4 k0 = some out → f0_h0[0]? = some (.ref h0_tape) → f0_h0[1]? = some (.int h0_length) → va_P D vwCl [(h0, .inr (1, f0_h0)), (h0_tape, .inl (tA 2, h0_tape_n, .inl h0_tape_c))] H → va_D A [(h0, .inr (1, f0_h0)), (h0_tape, .inl (tA 2, h0_tape_n, .inl h0_tape_c))] → va_S A s.heap H locs → lv_has ls 5 [(0, .ref h0), (1, .int l1)] → W p l e { frames := 0, cells := 0, slots := 0, locals := 0 } s m args below meth c H locs 0 0 (MQ below (va_Qi (fun (r9 : Int32) (u9 : Unit) => r9 = out) (zPost D A (fun (u9 : Unit) => [(h0, .inr (1, f0_h0)), (h0_tape, .inl (tA 2, h0_tape_n, .inl h0_tape_c))])) A) args s 0 0 A) (F0 m 0 ls []) := by
  intro l2 l3 l4 k0   H locs ls hF q_h0_tape q_h0_length hP hD hS hl
  rw [e_Wo_afterBlanks_0] at hF
  obtain ⟨_, hF⟩ := chk_some hF
  refine lv_iconst (v := 0) hx hb d_Wo_afterBlanks_0 (by decide) ?_
  refine lv_istore_n (lv' := [(2, .int 0), (0, .ref h0), (1, .int l1)]) hx hb d_Wo_afterBlanks_1 rfl hl (by decide) rfl (fun ls hl => ?_)
  refine lv_iload_n hx hb d_Wo_afterBlanks_2 rfl (lv_at hl 2 rfl) ?_
  refine lv_istore_n (lv' := [(3, .int l1), (2, .int 0), (0, .ref h0), (1, .int l1)]) hx hb d_Wo_afterBlanks_3 rfl hl (by decide) rfl (fun ls hl => ?_)
  exact ih1 0 l1 0 0   _ _ _ hF q_h0_tape q_h0_length hP hD hS (lv_sub hl [2, 3, 1, 0] rfl)
set_option maxHeartbeats 4000000 in
set_option maxRecDepth 100000 in
theorem b_Wo_afterBlanks_1 {p : Program} {l : Launch} {e : Env} {s : State} {m : MethodId} {args : Array Value} {below : List Frame} {meth : Method} {c : Code} {D : va_G} {tA : Nat → ClassId} {A : Nat → Prop} {h0 h0_tape : Nat} {f0_h0 : List Value} {h0_tape_n : Nat} {l1 : Int32} {h0_length : Int32} {h0_tape_c : Nat → Int32} {out : Int32} (hx : p.tables.exec = Jvm.exec) (hb : c.code = prog_13_method_5_code) (hr : meth.sig.returnType = (Option.some Jvm.ClassFile.FieldType.int)) (hml : c.maxLocals = 5) (hh : zH s) (hg : ∀ w ∈ lw_R, w.before args s = true) (hown : s.vm.findClass "ChanceArena$Words" = some m.cls) (hlocks : meth.locks = false) (hK : va_K D vwCl (zT tA) s) (hA : ∀ q, s.heap.size ≤ q → A q) {n : Nat} (ih2 : ∀ (l2 : Int32) (l3 : Int32) (l4 : Int32) (k0 : Int32) (H : Heap) (locs : List Loc) (ls : Array Slot), f_Wo_afterBlanks h0_tape_n l1 h0_length h0_tape_c n 2 l2 l3 l4 k0 = some out → f0_h0[0]? = some (.ref h0_tape) → f0_h0[1]? = some (.int h0_length) → va_P D vwCl [(h0, .inr (1, f0_h0)), (h0_tape, .inl (tA 2, h0_tape_n, .inl h0_tape_c))] H → va_D A [(h0, .inr (1, f0_h0)), (h0_tape, .inl (tA 2, h0_tape_n, .inl h0_tape_c))] → va_S A s.heap H locs → lv_has ls 5 [(0, .ref h0), (1, .int l1), (2, .int l2), (3, .int l3), (4, .int l4)] → W p l e { frames := 0, cells := 0, slots := 0, locals := 0 } s m args below meth c H locs 0 0 (MQ below (va_Qi (fun (r9 : Int32) (u9 : Unit) => r9 = out) (zPost D A (fun (u9 : Unit) => [(h0, .inr (1, f0_h0)), (h0_tape, .inl (tA 2, h0_tape_n, .inl h0_tape_c))])) A) args s 0 0 A) (F0 m 43 ls [.int k0])) : ∀ (l2 : Int32) (l3 : Int32) (l4 : Int32) (k0 : Int32) (H : Heap) (locs : List Loc) (ls : Array Slot), f_Wo_afterBlanks h0_tape_n l1 h0_length h0_tape_c (n + 1) 1 l2 l3 l4 k0 = some out → f0_h0[0]? = some (.ref h0_tape) → f0_h0[1]? = some (.int h0_length) → va_P D vwCl [(h0, .inr (1, f0_h0)), (h0_tape, .inl (tA 2, h0_tape_n, .inl h0_tape_c))] H → va_D A [(h0, .inr (1, f0_h0)), (h0_tape, .inl (tA 2, h0_tape_n, .inl h0_tape_c))] → va_S A s.heap H locs → lv_has ls 5 [(0, .ref h0), (1, .int l1), (2, .int l2), (3, .int l3)] → W p l e { frames := 0, cells := 0, slots := 0, locals := 0 } s m args below meth c H locs 0 0 (MQ below (va_Qi (fun (r9 : Int32) (u9 : Unit) => r9 = out) (zPost D A (fun (u9 : Unit) => [(h0, .inr (1, f0_h0)), (h0_tape, .inl (tA 2, h0_tape_n, .inl h0_tape_c))])) A) args s 0 0 A) (F0 m 4 ls []) := by
  intro l2 l3 l4 k0   H locs ls hF q_h0_tape q_h0_length hP hD hS hl
  rw [e_Wo_afterBlanks_1] at hF
  refine lv_iload_n hx hb d_Wo_afterBlanks_4 rfl (lv_at hl 3 rfl) ?_
  refine lv_aload_n hx hb d_Wo_afterBlanks_5 rfl (lv_at hl 0 rfl) ?_
  refine va_get (D := D) (ci := 1) (v := .int h0_length) (C := R_Wo) (T := T_Wo) (N := 6) hx hb hg i_Wo hown hK hP 0 rfl rfl 1 (by decide) (hg _ k1_55) (fun _ h9 => h9) q_h0_length d_Wo_afterBlanks_6 ?_
  refine lv_icmp_ge (tgt := 84) hx hb d_Wo_afterBlanks_9 (by decide) (fun c9 => ?_) (fun c9 => ?_)
  · replace hF := ifp c9 hF
    refine lv_aload_n hx hb d_Wo_afterBlanks_84 rfl (lv_at hl 0 rfl) ?_
    refine va_get (D := D) (ci := 1) (v := .int h0_length) (C := R_Wo) (T := T_Wo) (N := 6) hx hb hg i_Wo hown hK hP 0 rfl rfl 1 (by decide) (hg _ k1_55) (fun _ h9 => h9) q_h0_length d_Wo_afterBlanks_85 ?_
    replace hF := Option.some.inj hF
    subst hF
    exact zZret (post := (fun (r9 : Int32) (u9 : Unit) => r9 = h0_length)) (W1 := (fun (u9 : Unit) => [(h0, .inr (1, f0_h0)), (h0_tape, .inl (tA 2, h0_tape_n, .inl h0_tape_c))])) (v := h0_length) hx hb hr rfl hlocks hP hD hS () rfl rfl d_Wo_afterBlanks_88
  · replace hF := ifn c9 hF
    refine lv_aload_n hx hb d_Wo_afterBlanks_12 rfl (lv_at hl 0 rfl) ?_
    refine va_get (D := D) (ci := 1) (v := .ref h0_tape) (C := R_Wo) (T := T_Wo) (N := 6) hx hb hg i_Wo hown hK hP 0 rfl rfl 0 (by decide) (hg _ k1_54) (fun _ h9 => h9) q_h0_tape d_Wo_afterBlanks_13 ?_
    refine lv_iload_n hx hb d_Wo_afterBlanks_16 rfl (lv_at hl 3 rfl) ?_
    obtain ⟨h9, hF⟩ := chk_some hF
    refine va_cald hx hb hK hP 1 2 rfl rfl (vp_in_iff.mpr h9) d_Wo_afterBlanks_17 ?_
    refine lv_istore (lv' := [(4, .int (h0_tape_c (l3 : Int32).toNatClampNeg)), (0, .ref h0), (1, .int l1), (2, .int l2), (3, .int l3)]) hx hb d_Wo_afterBlanks_18 hl (by decide) rfl (fun ls hl => ?_)
    refine lv_iload hx hb d_Wo_afterBlanks_20 (lv_at hl 0 rfl) ?_
    refine lv_bipush (v := 35) hx hb d_Wo_afterBlanks_22 (by decide) ?_
    refine lv_icmp_eq (tgt := 38) hx hb d_Wo_afterBlanks_24 (by decide) (fun c9 => ?_) (fun c9 => ?_)
    · replace hF := ifp c9 hF
      refine lv_iconst (v := 1) hx hb d_Wo_afterBlanks_38 (by decide) ?_
      refine lv_goto (tgt := 43) hx hb d_Wo_afterBlanks_39 (by decide) ?_
      exact ih2 l2 l3 (h0_tape_c (l3 : Int32).toNatClampNeg) 1   _ _ _ hF q_h0_tape q_h0_length hP hD hS (lv_sub hl [1, 2, 3, 4, 0] rfl)
    · replace hF := ifn c9 hF
      refine lv_iload_n hx hb d_Wo_afterBlanks_27 rfl (lv_at hl 3 rfl) ?_
      refine lv_if_eq (tgt := 42) hx hb d_Wo_afterBlanks_28 (by decide) (fun c9 => ?_) (fun c9 => ?_)
      · replace hF := ifp c9 hF
        refine lv_iconst (v := 0) hx hb d_Wo_afterBlanks_42 (by decide) ?_
        exact ih2 l2 l3 (h0_tape_c (l3 : Int32).toNatClampNeg) 0   _ _ _ hF q_h0_tape q_h0_length hP hD hS (lv_sub hl [1, 2, 3, 4, 0] rfl)
      · replace hF := ifn c9 hF
        refine lv_iload hx hb d_Wo_afterBlanks_31 (lv_at hl 0 rfl) ?_
        refine lv_bipush (v := 10) hx hb d_Wo_afterBlanks_33 (by decide) ?_
        refine lv_icmp_eq (tgt := 42) hx hb d_Wo_afterBlanks_35 (by decide) (fun c9 => ?_) (fun c9 => ?_)
        · replace hF := ifp c9 hF
          refine lv_iconst (v := 0) hx hb d_Wo_afterBlanks_42 (by decide) ?_
          exact ih2 l2 l3 (h0_tape_c (l3 : Int32).toNatClampNeg) 0   _ _ _ hF q_h0_tape q_h0_length hP hD hS (lv_sub hl [1, 2, 3, 4, 0] rfl)
        · replace hF := ifn c9 hF
          refine lv_iconst (v := 1) hx hb d_Wo_afterBlanks_38 (by decide) ?_
          refine lv_goto (tgt := 43) hx hb d_Wo_afterBlanks_39 (by decide) ?_
          exact ih2 l2 l3 (h0_tape_c (l3 : Int32).toNatClampNeg) 1   _ _ _ hF q_h0_tape q_h0_length hP hD hS (lv_sub hl [1, 2, 3, 4, 0] rfl)
set_option maxHeartbeats 4000000 in
set_option maxRecDepth 100000 in
theorem b_Wo_afterBlanks_2 {p : Program} {l : Launch} {e : Env} {s : State} {m : MethodId} {args : Array Value} {below : List Frame} {meth : Method} {c : Code} {D : va_G} {tA : Nat → ClassId} {A : Nat → Prop} {h0 h0_tape : Nat} {f0_h0 : List Value} {h0_tape_n : Nat} {l1 : Int32} {h0_length : Int32} {h0_tape_c : Nat → Int32} {out : Int32} (hx : p.tables.exec = Jvm.exec) (hb : c.code = prog_13_method_5_code) (hr : meth.sig.returnType = (Option.some Jvm.ClassFile.FieldType.int)) (hml : c.maxLocals = 5) (hh : zH s) (hg : ∀ w ∈ lw_R, w.before args s = true) (hown : s.vm.findClass "ChanceArena$Words" = some m.cls) (hlocks : meth.locks = false) (hK : va_K D vwCl (zT tA) s) (hA : ∀ q, s.heap.size ≤ q → A q) {n : Nat} (ih1 : ∀ (l2 : Int32) (l3 : Int32) (l4 : Int32) (k0 : Int32) (H : Heap) (locs : List Loc) (ls : Array Slot), f_Wo_afterBlanks h0_tape_n l1 h0_length h0_tape_c n 1 l2 l3 l4 k0 = some out → f0_h0[0]? = some (.ref h0_tape) → f0_h0[1]? = some (.int h0_length) → va_P D vwCl [(h0, .inr (1, f0_h0)), (h0_tape, .inl (tA 2, h0_tape_n, .inl h0_tape_c))] H → va_D A [(h0, .inr (1, f0_h0)), (h0_tape, .inl (tA 2, h0_tape_n, .inl h0_tape_c))] → va_S A s.heap H locs → lv_has ls 5 [(0, .ref h0), (1, .int l1), (2, .int l2), (3, .int l3)] → W p l e { frames := 0, cells := 0, slots := 0, locals := 0 } s m args below meth c H locs 0 0 (MQ below (va_Qi (fun (r9 : Int32) (u9 : Unit) => r9 = out) (zPost D A (fun (u9 : Unit) => [(h0, .inr (1, f0_h0)), (h0_tape, .inl (tA 2, h0_tape_n, .inl h0_tape_c))])) A) args s 0 0 A) (F0 m 4 ls [])) : ∀ (l2 : Int32) (l3 : Int32) (l4 : Int32) (k0 : Int32) (H : Heap) (locs : List Loc) (ls : Array Slot), f_Wo_afterBlanks h0_tape_n l1 h0_length h0_tape_c (n + 1) 2 l2 l3 l4 k0 = some out → f0_h0[0]? = some (.ref h0_tape) → f0_h0[1]? = some (.int h0_length) → va_P D vwCl [(h0, .inr (1, f0_h0)), (h0_tape, .inl (tA 2, h0_tape_n, .inl h0_tape_c))] H → va_D A [(h0, .inr (1, f0_h0)), (h0_tape, .inl (tA 2, h0_tape_n, .inl h0_tape_c))] → va_S A s.heap H locs → lv_has ls 5 [(0, .ref h0), (1, .int l1), (2, .int l2), (3, .int l3), (4, .int l4)] → W p l e { frames := 0, cells := 0, slots := 0, locals := 0 } s m args below meth c H locs 0 0 (MQ below (va_Qi (fun (r9 : Int32) (u9 : Unit) => r9 = out) (zPost D A (fun (u9 : Unit) => [(h0, .inr (1, f0_h0)), (h0_tape, .inl (tA 2, h0_tape_n, .inl h0_tape_c))])) A) args s 0 0 A) (F0 m 43 ls [.int k0]) := by
  intro l2 l3 l4 k0   H locs ls hF q_h0_tape q_h0_length hP hD hS hl
  rw [e_Wo_afterBlanks_2] at hF
  refine lv_istore_n (lv' := [(2, .int k0), (0, .ref h0), (1, .int l1), (3, .int l3), (4, .int l4)]) hx hb d_Wo_afterBlanks_43 rfl hl (by decide) rfl (fun ls hl => ?_)
  refine lv_iload_n hx hb d_Wo_afterBlanks_44 rfl (lv_at hl 0 rfl) ?_
  refine lv_if_ne (tgt := 78) hx hb d_Wo_afterBlanks_45 (by decide) (fun c9 => ?_) (fun c9 => ?_)
  · replace hF := ifp c9 hF
    refine lv_iinc (v := (l3 + Int32.ofInt 1)) (lv' := [(3, .int (l3 + Int32.ofInt 1)), (2, .int k0), (0, .ref h0), (1, .int l1), (4, .int l4)]) hx hb d_Wo_afterBlanks_78 hl (k := 3) rfl rfl (by decide) rfl (fun ls hl => ?_)
    refine lv_goto (tgt := 4) hx hb d_Wo_afterBlanks_81 (by decide) ?_
    exact ih1 k0 (l3 + Int32.ofInt 1) 0 0   _ _ _ hF q_h0_tape q_h0_length hP hD hS (lv_sub hl [2, 3, 1, 0] rfl)
  · replace hF := ifn (fun h9 => h9 c9) hF
    refine lv_iload hx hb d_Wo_afterBlanks_48 (lv_at hl 4 rfl) ?_
    refine lv_bipush (v := 9) hx hb d_Wo_afterBlanks_50 (by decide) ?_
    refine lv_icmp_eq (tgt := 78) hx hb d_Wo_afterBlanks_52 (by decide) (fun c9 => ?_) (fun c9 => ?_)
    · replace hF := ifp c9 hF
      refine lv_iinc (v := (l3 + Int32.ofInt 1)) (lv' := [(3, .int (l3 + Int32.ofInt 1)), (2, .int k0), (0, .ref h0), (1, .int l1), (4, .int l4)]) hx hb d_Wo_afterBlanks_78 hl (k := 3) rfl rfl (by decide) rfl (fun ls hl => ?_)
      refine lv_goto (tgt := 4) hx hb d_Wo_afterBlanks_81 (by decide) ?_
      exact ih1 k0 (l3 + Int32.ofInt 1) 0 0   _ _ _ hF q_h0_tape q_h0_length hP hD hS (lv_sub hl [2, 3, 1, 0] rfl)
    · replace hF := ifn c9 hF
      refine lv_iload hx hb d_Wo_afterBlanks_55 (lv_at hl 4 rfl) ?_
      refine lv_bipush (v := 10) hx hb d_Wo_afterBlanks_57 (by decide) ?_
      refine lv_icmp_eq (tgt := 78) hx hb d_Wo_afterBlanks_59 (by decide) (fun c9 => ?_) (fun c9 => ?_)
      · replace hF := ifp c9 hF
        refine lv_iinc (v := (l3 + Int32.ofInt 1)) (lv' := [(3, .int (l3 + Int32.ofInt 1)), (2, .int k0), (0, .ref h0), (1, .int l1), (4, .int l4)]) hx hb d_Wo_afterBlanks_78 hl (k := 3) rfl rfl (by decide) rfl (fun ls hl => ?_)
        refine lv_goto (tgt := 4) hx hb d_Wo_afterBlanks_81 (by decide) ?_
        exact ih1 k0 (l3 + Int32.ofInt 1) 0 0   _ _ _ hF q_h0_tape q_h0_length hP hD hS (lv_sub hl [2, 3, 1, 0] rfl)
      · replace hF := ifn c9 hF
        refine lv_iload hx hb d_Wo_afterBlanks_62 (lv_at hl 4 rfl) ?_
        refine lv_bipush (v := 13) hx hb d_Wo_afterBlanks_64 (by decide) ?_
        refine lv_icmp_eq (tgt := 78) hx hb d_Wo_afterBlanks_66 (by decide) (fun c9 => ?_) (fun c9 => ?_)
        · replace hF := ifp c9 hF
          refine lv_iinc (v := (l3 + Int32.ofInt 1)) (lv' := [(3, .int (l3 + Int32.ofInt 1)), (2, .int k0), (0, .ref h0), (1, .int l1), (4, .int l4)]) hx hb d_Wo_afterBlanks_78 hl (k := 3) rfl rfl (by decide) rfl (fun ls hl => ?_)
          refine lv_goto (tgt := 4) hx hb d_Wo_afterBlanks_81 (by decide) ?_
          exact ih1 k0 (l3 + Int32.ofInt 1) 0 0   _ _ _ hF q_h0_tape q_h0_length hP hD hS (lv_sub hl [2, 3, 1, 0] rfl)
        · replace hF := ifn c9 hF
          refine lv_iload hx hb d_Wo_afterBlanks_69 (lv_at hl 4 rfl) ?_
          refine lv_bipush (v := 32) hx hb d_Wo_afterBlanks_71 (by decide) ?_
          refine lv_icmp_eq (tgt := 78) hx hb d_Wo_afterBlanks_73 (by decide) (fun c9 => ?_) (fun c9 => ?_)
          · replace hF := ifp c9 hF
            refine lv_iinc (v := (l3 + Int32.ofInt 1)) (lv' := [(3, .int (l3 + Int32.ofInt 1)), (2, .int k0), (0, .ref h0), (1, .int l1), (4, .int l4)]) hx hb d_Wo_afterBlanks_78 hl (k := 3) rfl rfl (by decide) rfl (fun ls hl => ?_)
            refine lv_goto (tgt := 4) hx hb d_Wo_afterBlanks_81 (by decide) ?_
            exact ih1 k0 (l3 + Int32.ofInt 1) 0 0   _ _ _ hF q_h0_tape q_h0_length hP hD hS (lv_sub hl [2, 3, 1, 0] rfl)
          · replace hF := ifn c9 hF
            refine lv_iload_n hx hb d_Wo_afterBlanks_76 rfl (lv_at hl 3 rfl) ?_
            replace hF := Option.some.inj hF
            subst hF
            exact zZret (post := (fun (r9 : Int32) (u9 : Unit) => r9 = l3)) (W1 := (fun (u9 : Unit) => [(h0, .inr (1, f0_h0)), (h0_tape, .inl (tA 2, h0_tape_n, .inl h0_tape_c))])) (v := l3) hx hb hr rfl hlocks hP hD hS () rfl rfl d_Wo_afterBlanks_77
set_option maxHeartbeats 4000000 in
set_option maxRecDepth 100000 in
theorem a_Wo_afterBlanks {p : Program} {l : Launch} {e : Env} {s : State} {m : MethodId} {args : Array Value} {below : List Frame} {meth : Method} {c : Code} {D : va_G} {tA : Nat → ClassId} {A : Nat → Prop} {h0 h0_tape : Nat} {f0_h0 : List Value} {h0_tape_n : Nat} {l1 : Int32} {h0_length : Int32} {h0_tape_c : Nat → Int32} {out : Int32} (hx : p.tables.exec = Jvm.exec) (hb : c.code = prog_13_method_5_code) (hr : meth.sig.returnType = (Option.some Jvm.ClassFile.FieldType.int)) (hml : c.maxLocals = 5) (hh : zH s) (hg : ∀ w ∈ lw_R, w.before args s = true) (hown : s.vm.findClass "ChanceArena$Words" = some m.cls) (hlocks : meth.locks = false) (hK : va_K D vwCl (zT tA) s) (hA : ∀ q, s.heap.size ≤ q → A q) : ∀ n : Nat, (∀ (l2 : Int32) (l3 : Int32) (l4 : Int32) (k0 : Int32) (H : Heap) (locs : List Loc) (ls : Array Slot), f_Wo_afterBlanks h0_tape_n l1 h0_length h0_tape_c n 0 l2 l3 l4 k0 = some out → f0_h0[0]? = some (.ref h0_tape) → f0_h0[1]? = some (.int h0_length) → va_P D vwCl [(h0, .inr (1, f0_h0)), (h0_tape, .inl (tA 2, h0_tape_n, .inl h0_tape_c))] H → va_D A [(h0, .inr (1, f0_h0)), (h0_tape, .inl (tA 2, h0_tape_n, .inl h0_tape_c))] → va_S A s.heap H locs → lv_has ls 5 [(0, .ref h0), (1, .int l1)] → W p l e { frames := 0, cells := 0, slots := 0, locals := 0 } s m args below meth c H locs 0 0 (MQ below (va_Qi (fun (r9 : Int32) (u9 : Unit) => r9 = out) (zPost D A (fun (u9 : Unit) => [(h0, .inr (1, f0_h0)), (h0_tape, .inl (tA 2, h0_tape_n, .inl h0_tape_c))])) A) args s 0 0 A) (F0 m 0 ls [])) ∧ (∀ (l2 : Int32) (l3 : Int32) (l4 : Int32) (k0 : Int32) (H : Heap) (locs : List Loc) (ls : Array Slot), f_Wo_afterBlanks h0_tape_n l1 h0_length h0_tape_c n 1 l2 l3 l4 k0 = some out → f0_h0[0]? = some (.ref h0_tape) → f0_h0[1]? = some (.int h0_length) → va_P D vwCl [(h0, .inr (1, f0_h0)), (h0_tape, .inl (tA 2, h0_tape_n, .inl h0_tape_c))] H → va_D A [(h0, .inr (1, f0_h0)), (h0_tape, .inl (tA 2, h0_tape_n, .inl h0_tape_c))] → va_S A s.heap H locs → lv_has ls 5 [(0, .ref h0), (1, .int l1), (2, .int l2), (3, .int l3)] → W p l e { frames := 0, cells := 0, slots := 0, locals := 0 } s m args below meth c H locs 0 0 (MQ below (va_Qi (fun (r9 : Int32) (u9 : Unit) => r9 = out) (zPost D A (fun (u9 : Unit) => [(h0, .inr (1, f0_h0)), (h0_tape, .inl (tA 2, h0_tape_n, .inl h0_tape_c))])) A) args s 0 0 A) (F0 m 4 ls [])) ∧ (∀ (l2 : Int32) (l3 : Int32) (l4 : Int32) (k0 : Int32) (H : Heap) (locs : List Loc) (ls : Array Slot), f_Wo_afterBlanks h0_tape_n l1 h0_length h0_tape_c n 2 l2 l3 l4 k0 = some out → f0_h0[0]? = some (.ref h0_tape) → f0_h0[1]? = some (.int h0_length) → va_P D vwCl [(h0, .inr (1, f0_h0)), (h0_tape, .inl (tA 2, h0_tape_n, .inl h0_tape_c))] H → va_D A [(h0, .inr (1, f0_h0)), (h0_tape, .inl (tA 2, h0_tape_n, .inl h0_tape_c))] → va_S A s.heap H locs → lv_has ls 5 [(0, .ref h0), (1, .int l1), (2, .int l2), (3, .int l3), (4, .int l4)] → W p l e { frames := 0, cells := 0, slots := 0, locals := 0 } s m args below meth c H locs 0 0 (MQ below (va_Qi (fun (r9 : Int32) (u9 : Unit) => r9 = out) (zPost D A (fun (u9 : Unit) => [(h0, .inr (1, f0_h0)), (h0_tape, .inl (tA 2, h0_tape_n, .inl h0_tape_c))])) A) args s 0 0 A) (F0 m 43 ls [.int k0])) := by
  intro n
  induction n with
  | zero => exact ⟨(fun _ _ _ _ _ _ _ hF => by rw [z_Wo_afterBlanks] at hF; cases hF), (fun _ _ _ _ _ _ _ hF => by rw [z_Wo_afterBlanks] at hF; cases hF), (fun _ _ _ _ _ _ _ hF => by rw [z_Wo_afterBlanks] at hF; cases hF)⟩
  | succ n ih =>
    obtain ⟨i0, i1, i2⟩ := ih
    exact ⟨b_Wo_afterBlanks_0 hx hb hr hml hh hg hown hlocks hK hA i1, b_Wo_afterBlanks_1 hx hb hr hml hh hg hown hlocks hK hA i2, b_Wo_afterBlanks_2 hx hb hr hml hh hg hown hlocks hK hA i1⟩
set_option maxHeartbeats 4000000 in
set_option maxRecDepth 100000 in
theorem m_Wo_afterBlanks (l : Launch) (D : va_G) (tA : Nat → ClassId) (sz : Nat) (h0 h0_tape : Nat) (f0_h0 : List Value) (h0_tape_n : Nat) (l1 : Int32) (h0_length : Int32) (h0_tape_c : Nat → Int32) (q_h0_tape : f0_h0[0]? = some (.ref h0_tape)) (q_h0_length : f0_h0[1]? = some (.int h0_length)) (n : Nat) (out : Int32) (hF : f_Wo_afterBlanks h0_tape_n l1 h0_length h0_tape_c n 0 0 0 0 0 = some out) : zMi l ({ cls := "ChanceArena$Words", name := "afterBlanks", desc := "(I)I" } : Jvm.MethodName) (zW (Jvm.Cond.code ({ cls := "ChanceArena$Words", name := "afterBlanks", desc := "(I)I" } : Jvm.MethodName) prog_13_method_5_code (5 : Nat) (Option.some Jvm.ClassFile.FieldType.int))) { frames := 0, cells := 0, slots := 0, locals := 0 } [.ref h0, .int l1] D tA [(h0, .inr (1, f0_h0)), (h0_tape, .inl (tA 2, h0_tape_n, .inl h0_tape_c))] sz (fun (r9 : Int32) (u9 : Unit) => r9 = out) (fun (u9 : Unit) => [(h0, .inr (1, f0_h0)), (h0_tape, .inl (tA 2, h0_tape_n, .inl h0_tape_c))]) 0 0 := by
  refine zOpen (l := l) (y := ({ cls := "ChanceArena$Words", name := "afterBlanks", desc := "(I)I" } : Jvm.MethodName)) (ws := zW (Jvm.Cond.code ({ cls := "ChanceArena$Words", name := "afterBlanks", desc := "(I)I" } : Jvm.MethodName) prog_13_method_5_code (5 : Nat) (Option.some Jvm.ClassFile.FieldType.int))) (rm := { frames := 0, cells := 0, slots := 0, locals := 0 }) (av := [.ref h0, .int l1]) (D := D) (tA := tA) (W0 := [(h0, .inr (1, f0_h0)), (h0_tape, .inl (tA 2, h0_tape_n, .inl h0_tape_c))]) (Wm := [(h0, .inr (1, f0_h0)), (h0_tape, .inl (tA 2, h0_tape_n, .inl h0_tape_c))]) (sz := sz) (mc := 0) (ms := 0) (fun A => va_Qi (fun (r9 : Int32) (u9 : Unit) => r9 = out) (zPost D A (fun (u9 : Unit) => [(h0, .inr (1, f0_h0)), (h0_tape, .inl (tA 2, h0_tape_n, .inl h0_tape_c))])) A) (lv := [(0, .ref h0), (1, .int l1)]) (by decide) rfl (Nat.le_of_ble_eq_true rfl) rfl ?_
  intro p e s m below meth c A ls hx hb hr hml hh hg hown hlocks hnm hK hA hP hD0 hAw hS hl
  have hD := zD hD0 hAw
  exact (a_Wo_afterBlanks hx hb hr hml hh hg hown hlocks hK hA n).1 0 0 0 0   _ _ _ hF q_h0_tape q_h0_length hP hD hS hl
def f_Wo_same (h0_tape_n : Nat) (l1 : Int32) (l2 : Int32) (l3 : Int32) (h0_tape_c : Nat → Int32) : Nat → Nat → Int32 → Option (Int32)
  | 0, _, _ => none
  | n + 1, 0, l4 => chk True (f_Wo_same h0_tape_n l1 l2 l3 h0_tape_c n 1 0)
  | n + 1, 1, l4 => if (l3 : Int32) ≤ l4 then some (1) else chk (0 ≤ ((l1 + l4) : Int32).toInt ∧ ((l1 + l4) : Int32).toInt < h0_tape_n) (chk (0 ≤ ((l2 + l4) : Int32).toInt ∧ ((l2 + l4) : Int32).toInt < h0_tape_n) (if ((h0_tape_c ((l1 + l4) : Int32).toNatClampNeg) : Int32) = (h0_tape_c ((l2 + l4) : Int32).toNatClampNeg) then f_Wo_same h0_tape_n l1 l2 l3 h0_tape_c n 1 (l4 + Int32.ofInt 1) else some (0)))
  | _ + 1, _ + 2, _ => none
theorem e_Wo_same_0 (h0_tape_n : Nat) (l1 : Int32) (l2 : Int32) (l3 : Int32) (h0_tape_c : Nat → Int32) (n : Nat) (l4 : Int32) : f_Wo_same h0_tape_n l1 l2 l3 h0_tape_c (n + 1) 0 l4 = chk True (f_Wo_same h0_tape_n l1 l2 l3 h0_tape_c n 1 0) := by rw [f_Wo_same]
theorem e_Wo_same_1 (h0_tape_n : Nat) (l1 : Int32) (l2 : Int32) (l3 : Int32) (h0_tape_c : Nat → Int32) (n : Nat) (l4 : Int32) : f_Wo_same h0_tape_n l1 l2 l3 h0_tape_c (n + 1) 1 l4 = if (l3 : Int32) ≤ l4 then some (1) else chk (0 ≤ ((l1 + l4) : Int32).toInt ∧ ((l1 + l4) : Int32).toInt < h0_tape_n) (chk (0 ≤ ((l2 + l4) : Int32).toInt ∧ ((l2 + l4) : Int32).toInt < h0_tape_n) (if ((h0_tape_c ((l1 + l4) : Int32).toNatClampNeg) : Int32) = (h0_tape_c ((l2 + l4) : Int32).toNatClampNeg) then f_Wo_same h0_tape_n l1 l2 l3 h0_tape_c n 1 (l4 + Int32.ofInt 1) else some (0))) := by rw [f_Wo_same]
theorem z_Wo_same (h0_tape_n : Nat) (l1 : Int32) (l2 : Int32) (l3 : Int32) (h0_tape_c : Nat → Int32) (h : Nat) (l4 : Int32) : f_Wo_same h0_tape_n l1 l2 l3 h0_tape_c 0 h l4 = none := by rw [f_Wo_same]
set_option maxHeartbeats 4000000 in
set_option maxRecDepth 100000 in
theorem b_Wo_same_0 {p : Program} {l : Launch} {e : Env} {s : State} {m : MethodId} {args : Array Value} {below : List Frame} {meth : Method} {c : Code} {D : va_G} {tA : Nat → ClassId} {A : Nat → Prop} {h0 h0_tape : Nat} {f0_h0 : List Value} {h0_tape_n : Nat} {l1 : Int32} {l2 : Int32} {l3 : Int32} {h0_tape_c : Nat → Int32} {out : Int32} (hx : p.tables.exec = Jvm.exec) (hb : c.code = prog_13_method_15_code) (hr : meth.sig.returnType = (Option.some Jvm.ClassFile.FieldType.boolean)) (hml : c.maxLocals = 5) (hh : zH s) (hg : ∀ w ∈ lw_R, w.before args s = true) (hown : s.vm.findClass "ChanceArena$Words" = some m.cls) (hlocks : meth.locks = false) (hK : va_K D vwCl (zT tA) s) (hA : ∀ q, s.heap.size ≤ q → A q) {n : Nat} (ih1 : ∀ (l4 : Int32) (H : Heap) (locs : List Loc) (ls : Array Slot), f_Wo_same h0_tape_n l1 l2 l3 h0_tape_c n 1 l4 = some out → f0_h0[0]? = some (.ref h0_tape) → va_P D vwCl [(h0, .inr (1, f0_h0)), (h0_tape, .inl (tA 2, h0_tape_n, .inl h0_tape_c))] H → va_D A [(h0, .inr (1, f0_h0)), (h0_tape, .inl (tA 2, h0_tape_n, .inl h0_tape_c))] → va_S A s.heap H locs → lv_has ls 5 [(0, .ref h0), (1, .int l1), (2, .int l2), (3, .int l3), (4, .int l4)] → W p l e { frames := 0, cells := 0, slots := 0, locals := 0 } s m args below meth c H locs 0 0 (MQ below (va_Qi (fun (r9 : Int32) (u9 : Unit) => r9 = out) (zPost D A (fun (u9 : Unit) => [(h0, .inr (1, f0_h0)), (h0_tape, .inl (tA 2, h0_tape_n, .inl h0_tape_c))])) A) args s 0 0 A) (F0 m 3 ls [])) : ∀ (l4 : Int32) (H : Heap) (locs : List Loc) (ls : Array Slot), f_Wo_same h0_tape_n l1 l2 l3 h0_tape_c (n + 1) 0 l4 = some out → f0_h0[0]? = some (.ref h0_tape) → va_P D vwCl [(h0, .inr (1, f0_h0)), (h0_tape, .inl (tA 2, h0_tape_n, .inl h0_tape_c))] H → va_D A [(h0, .inr (1, f0_h0)), (h0_tape, .inl (tA 2, h0_tape_n, .inl h0_tape_c))] → va_S A s.heap H locs → lv_has ls 5 [(0, .ref h0), (1, .int l1), (2, .int l2), (3, .int l3)] → W p l e { frames := 0, cells := 0, slots := 0, locals := 0 } s m args below meth c H locs 0 0 (MQ below (va_Qi (fun (r9 : Int32) (u9 : Unit) => r9 = out) (zPost D A (fun (u9 : Unit) => [(h0, .inr (1, f0_h0)), (h0_tape, .inl (tA 2, h0_tape_n, .inl h0_tape_c))])) A) args s 0 0 A) (F0 m 0 ls []) := by
  intro l4   H locs ls hF q_h0_tape hP hD hS hl
  rw [e_Wo_same_0] at hF
  obtain ⟨_, hF⟩ := chk_some hF
  refine lv_iconst (v := 0) hx hb d_Wo_same_0 (by decide) ?_
  refine lv_istore (lv' := [(4, .int 0), (0, .ref h0), (1, .int l1), (2, .int l2), (3, .int l3)]) hx hb d_Wo_same_1 hl (by decide) rfl (fun ls hl => ?_)
  exact ih1 0   _ _ _ hF q_h0_tape hP hD hS (lv_sub hl [1, 2, 3, 4, 0] rfl)
set_option maxHeartbeats 4000000 in
set_option maxRecDepth 100000 in
theorem b_Wo_same_1 {p : Program} {l : Launch} {e : Env} {s : State} {m : MethodId} {args : Array Value} {below : List Frame} {meth : Method} {c : Code} {D : va_G} {tA : Nat → ClassId} {A : Nat → Prop} {h0 h0_tape : Nat} {f0_h0 : List Value} {h0_tape_n : Nat} {l1 : Int32} {l2 : Int32} {l3 : Int32} {h0_tape_c : Nat → Int32} {out : Int32} (hx : p.tables.exec = Jvm.exec) (hb : c.code = prog_13_method_15_code) (hr : meth.sig.returnType = (Option.some Jvm.ClassFile.FieldType.boolean)) (hml : c.maxLocals = 5) (hh : zH s) (hg : ∀ w ∈ lw_R, w.before args s = true) (hown : s.vm.findClass "ChanceArena$Words" = some m.cls) (hlocks : meth.locks = false) (hK : va_K D vwCl (zT tA) s) (hA : ∀ q, s.heap.size ≤ q → A q) {n : Nat} (ih1 : ∀ (l4 : Int32) (H : Heap) (locs : List Loc) (ls : Array Slot), f_Wo_same h0_tape_n l1 l2 l3 h0_tape_c n 1 l4 = some out → f0_h0[0]? = some (.ref h0_tape) → va_P D vwCl [(h0, .inr (1, f0_h0)), (h0_tape, .inl (tA 2, h0_tape_n, .inl h0_tape_c))] H → va_D A [(h0, .inr (1, f0_h0)), (h0_tape, .inl (tA 2, h0_tape_n, .inl h0_tape_c))] → va_S A s.heap H locs → lv_has ls 5 [(0, .ref h0), (1, .int l1), (2, .int l2), (3, .int l3), (4, .int l4)] → W p l e { frames := 0, cells := 0, slots := 0, locals := 0 } s m args below meth c H locs 0 0 (MQ below (va_Qi (fun (r9 : Int32) (u9 : Unit) => r9 = out) (zPost D A (fun (u9 : Unit) => [(h0, .inr (1, f0_h0)), (h0_tape, .inl (tA 2, h0_tape_n, .inl h0_tape_c))])) A) args s 0 0 A) (F0 m 3 ls [])) : ∀ (l4 : Int32) (H : Heap) (locs : List Loc) (ls : Array Slot), f_Wo_same h0_tape_n l1 l2 l3 h0_tape_c (n + 1) 1 l4 = some out → f0_h0[0]? = some (.ref h0_tape) → va_P D vwCl [(h0, .inr (1, f0_h0)), (h0_tape, .inl (tA 2, h0_tape_n, .inl h0_tape_c))] H → va_D A [(h0, .inr (1, f0_h0)), (h0_tape, .inl (tA 2, h0_tape_n, .inl h0_tape_c))] → va_S A s.heap H locs → lv_has ls 5 [(0, .ref h0), (1, .int l1), (2, .int l2), (3, .int l3), (4, .int l4)] → W p l e { frames := 0, cells := 0, slots := 0, locals := 0 } s m args below meth c H locs 0 0 (MQ below (va_Qi (fun (r9 : Int32) (u9 : Unit) => r9 = out) (zPost D A (fun (u9 : Unit) => [(h0, .inr (1, f0_h0)), (h0_tape, .inl (tA 2, h0_tape_n, .inl h0_tape_c))])) A) args s 0 0 A) (F0 m 3 ls []) := by
  intro l4   H locs ls hF q_h0_tape hP hD hS hl
  rw [e_Wo_same_1] at hF
  refine lv_iload hx hb d_Wo_same_3 (lv_at hl 4 rfl) ?_
  refine lv_iload_n hx hb d_Wo_same_5 rfl (lv_at hl 3 rfl) ?_
  refine lv_icmp_ge (tgt := 38) hx hb d_Wo_same_6 (by decide) (fun c9 => ?_) (fun c9 => ?_)
  · replace hF := ifp c9 hF
    refine lv_iconst (v := 1) hx hb d_Wo_same_38 (by decide) ?_
    replace hF := Option.some.inj hF
    subst hF
    exact zZret (post := (fun (r9 : Int32) (u9 : Unit) => r9 = 1)) (W1 := (fun (u9 : Unit) => [(h0, .inr (1, f0_h0)), (h0_tape, .inl (tA 2, h0_tape_n, .inl h0_tape_c))])) (v := 1) hx hb hr rfl hlocks hP hD hS () rfl rfl d_Wo_same_39
  · replace hF := ifn c9 hF
    refine lv_aload_n hx hb d_Wo_same_9 rfl (lv_at hl 0 rfl) ?_
    refine va_get (D := D) (ci := 1) (v := .ref h0_tape) (C := R_Wo) (T := T_Wo) (N := 6) hx hb hg i_Wo hown hK hP 0 rfl rfl 0 (by decide) (hg _ k1_54) (fun _ h9 => h9) q_h0_tape d_Wo_same_10 ?_
    refine lv_iload_n hx hb d_Wo_same_13 rfl (lv_at hl 1 rfl) ?_
    refine lv_iload hx hb d_Wo_same_14 (lv_at hl 4 rfl) ?_
    refine lv_iadd hx hb d_Wo_same_16 ?_
    obtain ⟨h9, hF⟩ := chk_some hF
    refine va_cald hx hb hK hP 1 2 rfl rfl (vp_in_iff.mpr h9) d_Wo_same_17 ?_
    refine lv_aload_n hx hb d_Wo_same_18 rfl (lv_at hl 0 rfl) ?_
    refine va_get (D := D) (ci := 1) (v := .ref h0_tape) (C := R_Wo) (T := T_Wo) (N := 6) hx hb hg i_Wo hown hK hP 0 rfl rfl 0 (by decide) (hg _ k1_54) (fun _ h9 => h9) q_h0_tape d_Wo_same_19 ?_
    refine lv_iload_n hx hb d_Wo_same_22 rfl (lv_at hl 2 rfl) ?_
    refine lv_iload hx hb d_Wo_same_23 (lv_at hl 4 rfl) ?_
    refine lv_iadd hx hb d_Wo_same_25 ?_
    obtain ⟨h9, hF⟩ := chk_some hF
    refine va_cald hx hb hK hP 1 2 rfl rfl (vp_in_iff.mpr h9) d_Wo_same_26 ?_
    refine lv_icmp_eq (tgt := 32) hx hb d_Wo_same_27 (by decide) (fun c9 => ?_) (fun c9 => ?_)
    · replace hF := ifp c9 hF
      refine lv_iinc (v := (l4 + Int32.ofInt 1)) (lv' := [(4, .int (l4 + Int32.ofInt 1)), (0, .ref h0), (1, .int l1), (2, .int l2), (3, .int l3)]) hx hb d_Wo_same_32 hl (k := 4) rfl rfl (by decide) rfl (fun ls hl => ?_)
      refine lv_goto (tgt := 3) hx hb d_Wo_same_35 (by decide) ?_
      exact ih1 (l4 + Int32.ofInt 1)   _ _ _ hF q_h0_tape hP hD hS (lv_sub hl [1, 2, 3, 4, 0] rfl)
    · replace hF := ifn c9 hF
      refine lv_iconst (v := 0) hx hb d_Wo_same_30 (by decide) ?_
      replace hF := Option.some.inj hF
      subst hF
      exact zZret (post := (fun (r9 : Int32) (u9 : Unit) => r9 = 0)) (W1 := (fun (u9 : Unit) => [(h0, .inr (1, f0_h0)), (h0_tape, .inl (tA 2, h0_tape_n, .inl h0_tape_c))])) (v := 0) hx hb hr rfl hlocks hP hD hS () rfl rfl d_Wo_same_31
set_option maxHeartbeats 4000000 in
set_option maxRecDepth 100000 in
theorem a_Wo_same {p : Program} {l : Launch} {e : Env} {s : State} {m : MethodId} {args : Array Value} {below : List Frame} {meth : Method} {c : Code} {D : va_G} {tA : Nat → ClassId} {A : Nat → Prop} {h0 h0_tape : Nat} {f0_h0 : List Value} {h0_tape_n : Nat} {l1 : Int32} {l2 : Int32} {l3 : Int32} {h0_tape_c : Nat → Int32} {out : Int32} (hx : p.tables.exec = Jvm.exec) (hb : c.code = prog_13_method_15_code) (hr : meth.sig.returnType = (Option.some Jvm.ClassFile.FieldType.boolean)) (hml : c.maxLocals = 5) (hh : zH s) (hg : ∀ w ∈ lw_R, w.before args s = true) (hown : s.vm.findClass "ChanceArena$Words" = some m.cls) (hlocks : meth.locks = false) (hK : va_K D vwCl (zT tA) s) (hA : ∀ q, s.heap.size ≤ q → A q) : ∀ n : Nat, (∀ (l4 : Int32) (H : Heap) (locs : List Loc) (ls : Array Slot), f_Wo_same h0_tape_n l1 l2 l3 h0_tape_c n 0 l4 = some out → f0_h0[0]? = some (.ref h0_tape) → va_P D vwCl [(h0, .inr (1, f0_h0)), (h0_tape, .inl (tA 2, h0_tape_n, .inl h0_tape_c))] H → va_D A [(h0, .inr (1, f0_h0)), (h0_tape, .inl (tA 2, h0_tape_n, .inl h0_tape_c))] → va_S A s.heap H locs → lv_has ls 5 [(0, .ref h0), (1, .int l1), (2, .int l2), (3, .int l3)] → W p l e { frames := 0, cells := 0, slots := 0, locals := 0 } s m args below meth c H locs 0 0 (MQ below (va_Qi (fun (r9 : Int32) (u9 : Unit) => r9 = out) (zPost D A (fun (u9 : Unit) => [(h0, .inr (1, f0_h0)), (h0_tape, .inl (tA 2, h0_tape_n, .inl h0_tape_c))])) A) args s 0 0 A) (F0 m 0 ls [])) ∧ (∀ (l4 : Int32) (H : Heap) (locs : List Loc) (ls : Array Slot), f_Wo_same h0_tape_n l1 l2 l3 h0_tape_c n 1 l4 = some out → f0_h0[0]? = some (.ref h0_tape) → va_P D vwCl [(h0, .inr (1, f0_h0)), (h0_tape, .inl (tA 2, h0_tape_n, .inl h0_tape_c))] H → va_D A [(h0, .inr (1, f0_h0)), (h0_tape, .inl (tA 2, h0_tape_n, .inl h0_tape_c))] → va_S A s.heap H locs → lv_has ls 5 [(0, .ref h0), (1, .int l1), (2, .int l2), (3, .int l3), (4, .int l4)] → W p l e { frames := 0, cells := 0, slots := 0, locals := 0 } s m args below meth c H locs 0 0 (MQ below (va_Qi (fun (r9 : Int32) (u9 : Unit) => r9 = out) (zPost D A (fun (u9 : Unit) => [(h0, .inr (1, f0_h0)), (h0_tape, .inl (tA 2, h0_tape_n, .inl h0_tape_c))])) A) args s 0 0 A) (F0 m 3 ls [])) := by
  intro n
  induction n with
  | zero => exact ⟨(fun _ _ _ _ hF => by rw [z_Wo_same] at hF; cases hF), (fun _ _ _ _ hF => by rw [z_Wo_same] at hF; cases hF)⟩
  | succ n ih =>
    obtain ⟨i0, i1⟩ := ih
    exact ⟨b_Wo_same_0 hx hb hr hml hh hg hown hlocks hK hA i1, b_Wo_same_1 hx hb hr hml hh hg hown hlocks hK hA i1⟩
set_option maxHeartbeats 4000000 in
set_option maxRecDepth 100000 in
theorem m_Wo_same (l : Launch) (D : va_G) (tA : Nat → ClassId) (sz : Nat) (h0 h0_tape : Nat) (f0_h0 : List Value) (h0_tape_n : Nat) (l1 : Int32) (l2 : Int32) (l3 : Int32) (h0_tape_c : Nat → Int32) (q_h0_tape : f0_h0[0]? = some (.ref h0_tape)) (n : Nat) (out : Int32) (hF : f_Wo_same h0_tape_n l1 l2 l3 h0_tape_c n 0 0 = some out) : zMi l ({ cls := "ChanceArena$Words", name := "same", desc := "(III)Z" } : Jvm.MethodName) (zW (Jvm.Cond.code ({ cls := "ChanceArena$Words", name := "same", desc := "(III)Z" } : Jvm.MethodName) prog_13_method_15_code (5 : Nat) (Option.some Jvm.ClassFile.FieldType.boolean))) { frames := 0, cells := 0, slots := 0, locals := 0 } [.ref h0, .int l1, .int l2, .int l3] D tA [(h0, .inr (1, f0_h0)), (h0_tape, .inl (tA 2, h0_tape_n, .inl h0_tape_c))] sz (fun (r9 : Int32) (u9 : Unit) => r9 = out) (fun (u9 : Unit) => [(h0, .inr (1, f0_h0)), (h0_tape, .inl (tA 2, h0_tape_n, .inl h0_tape_c))]) 0 0 := by
  refine zOpen (l := l) (y := ({ cls := "ChanceArena$Words", name := "same", desc := "(III)Z" } : Jvm.MethodName)) (ws := zW (Jvm.Cond.code ({ cls := "ChanceArena$Words", name := "same", desc := "(III)Z" } : Jvm.MethodName) prog_13_method_15_code (5 : Nat) (Option.some Jvm.ClassFile.FieldType.boolean))) (rm := { frames := 0, cells := 0, slots := 0, locals := 0 }) (av := [.ref h0, .int l1, .int l2, .int l3]) (D := D) (tA := tA) (W0 := [(h0, .inr (1, f0_h0)), (h0_tape, .inl (tA 2, h0_tape_n, .inl h0_tape_c))]) (Wm := [(h0, .inr (1, f0_h0)), (h0_tape, .inl (tA 2, h0_tape_n, .inl h0_tape_c))]) (sz := sz) (mc := 0) (ms := 0) (fun A => va_Qi (fun (r9 : Int32) (u9 : Unit) => r9 = out) (zPost D A (fun (u9 : Unit) => [(h0, .inr (1, f0_h0)), (h0_tape, .inl (tA 2, h0_tape_n, .inl h0_tape_c))])) A) (lv := [(0, .ref h0), (1, .int l1), (2, .int l2), (3, .int l3)]) (by decide) rfl (Nat.le_of_ble_eq_true rfl) rfl ?_
  intro p e s m below meth c A ls hx hb hr hml hh hg hown hlocks hnm hK hA hP hD0 hAw hS hl
  have hD := zD hD0 hAw
  exact (a_Wo_same hx hb hr hml hh hg hown hlocks hK hA n).1 0   _ _ _ hF q_h0_tape hP hD hS hl
def f_Wo_add (h0_sorts_n : Nat) (h0_starts_n : Nat) (h0_amounts_n : Nat) (l1 : Int32) (l2 : Int32) (l3 : Int32) (h0_count : Int32) (h0_sorts_c : Nat → Int32) (h0_starts_c : Nat → Int32) (h0_amounts_c : Nat → Int32) : Option (Int32 × (Nat → Int32) × (Nat → Int32) × (Nat → Int32)) := chk (0 ≤ (h0_count : Int32).toInt ∧ (h0_count : Int32).toInt < h0_sorts_n) (chk (0 ≤ (h0_count : Int32).toInt ∧ (h0_count : Int32).toInt < h0_starts_n) (chk (0 ≤ (h0_count : Int32).toInt ∧ (h0_count : Int32).toInt < h0_amounts_n) (some ((h0_count + 1), upd h0_sorts_c (h0_count : Int32).toNatClampNeg l1, upd h0_starts_c (h0_count : Int32).toNatClampNeg l2, upd h0_amounts_c (h0_count : Int32).toNatClampNeg l3))))
set_option maxHeartbeats 4000000 in
set_option maxRecDepth 100000 in
theorem b_Wo_add_0 {p : Program} {l : Launch} {e : Env} {s : State} {m : MethodId} {args : Array Value} {below : List Frame} {meth : Method} {c : Code} {D : va_G} {tA : Nat → ClassId} {A : Nat → Prop} {h0 h0_sorts h0_starts h0_amounts : Nat} {f0_h0 : List Value} {h0_sorts_n : Nat} {h0_starts_n : Nat} {h0_amounts_n : Nat} {l1 : Int32} {l2 : Int32} {l3 : Int32} {h0_count : Int32} {h0_sorts_c : Nat → Int32} {h0_starts_c : Nat → Int32} {h0_amounts_c : Nat → Int32} {out : Int32 × (Nat → Int32) × (Nat → Int32) × (Nat → Int32)} (hx : p.tables.exec = Jvm.exec) (hb : c.code = prog_13_method_4_code) (hr : meth.sig.returnType = (Option.none : Option Jvm.ClassFile.FieldType)) (hml : c.maxLocals = 4) (hh : zH s) (hg : ∀ w ∈ lw_R, w.before args s = true) (hown : s.vm.findClass "ChanceArena$Words" = some m.cls) (hlocks : meth.locks = false) (hK : va_K D vwCl (zT tA) s) (hA : ∀ q, s.heap.size ≤ q → A q)  : ∀ (f_h0 : List Value) (H : Heap) (locs : List Loc) (ls : Array Slot), f_Wo_add h0_sorts_n h0_starts_n h0_amounts_n l1 l2 l3 h0_count h0_sorts_c h0_starts_c h0_amounts_c = some out → f_h0[3]? = some (.ref h0_sorts) → f_h0[4]? = some (.ref h0_starts) → f_h0[5]? = some (.ref h0_amounts) → f_h0[2]? = some (.int h0_count) → Fr [2] f0_h0 f_h0 → va_P D vwCl [(h0, .inr (1, f_h0)), (h0_sorts, .inl (tA 0, h0_sorts_n, .inl h0_sorts_c)), (h0_starts, .inl (tA 0, h0_starts_n, .inl h0_starts_c)), (h0_amounts, .inl (tA 0, h0_amounts_n, .inl h0_amounts_c))] H → va_D A [(h0, .inr (1, f_h0)), (h0_sorts, .inl (tA 0, h0_sorts_n, .inl h0_sorts_c)), (h0_starts, .inl (tA 0, h0_starts_n, .inl h0_starts_c)), (h0_amounts, .inl (tA 0, h0_amounts_n, .inl h0_amounts_c))] → va_S A s.heap H locs → lv_has ls 4 [(0, .ref h0), (1, .int l1), (2, .int l2), (3, .int l3)] → W p l e { frames := 0, cells := 0, slots := 0, locals := 0 } s m args below meth c H locs 0 0 (MQ below (va_Qv (fun (u9 : List Value) => Fr [2] f0_h0 u9 ∧ u9[2]? = some (.int out.1)) (zPost D A (fun (u9 : List Value) => [(h0, .inr (1, u9)), (h0_sorts, .inl (tA 0, h0_sorts_n, .inl out.2.1)), (h0_starts, .inl (tA 0, h0_starts_n, .inl out.2.2.1)), (h0_amounts, .inl (tA 0, h0_amounts_n, .inl out.2.2.2))])) A) args s 0 0 A) (F0 m 0 ls []) := by
  intro   f_h0 H locs ls hF q_h0_sorts q_h0_starts q_h0_amounts q_h0_count r_h0 hP hD hS hl
  replace hF : ((chk (0 ≤ (h0_count : Int32).toInt ∧ (h0_count : Int32).toInt < h0_sorts_n) (chk (0 ≤ (h0_count : Int32).toInt ∧ (h0_count : Int32).toInt < h0_starts_n) (chk (0 ≤ (h0_count : Int32).toInt ∧ (h0_count : Int32).toInt < h0_amounts_n) (some ((h0_count + 1), upd h0_sorts_c (h0_count : Int32).toNatClampNeg l1, upd h0_starts_c (h0_count : Int32).toNatClampNeg l2, upd h0_amounts_c (h0_count : Int32).toNatClampNeg l3))))) : Option (Int32 × (Nat → Int32) × (Nat → Int32) × (Nat → Int32))) = some out := hF
  refine lv_aload_n hx hb d_Wo_add_0 rfl (lv_at hl 0 rfl) ?_
  refine va_get (D := D) (ci := 1) (v := .ref h0_sorts) (C := R_Wo) (T := T_Wo) (N := 6) hx hb hg i_Wo hown hK hP 0 rfl rfl 3 (by decide) (hg _ k1_60) (fun _ h9 => h9) q_h0_sorts d_Wo_add_1 ?_
  refine lv_aload_n hx hb d_Wo_add_4 rfl (lv_at hl 0 rfl) ?_
  refine va_get (D := D) (ci := 1) (v := .int h0_count) (C := R_Wo) (T := T_Wo) (N := 6) hx hb hg i_Wo hown hK hP 0 rfl rfl 2 (by decide) (hg _ k1_57) (fun _ h9 => h9) q_h0_count d_Wo_add_5 ?_
  refine lv_iload_n hx hb d_Wo_add_8 rfl (lv_at hl 1 rfl) ?_
  obtain ⟨h9, hF⟩ := chk_some hF
  refine va_iast hx hb hK hP hD hS 1 0 rfl rfl (vp_in_iff.mpr h9) d_Wo_add_9 (fun H1 locs1 hP1 hD1 hS1 => ?_)
  clear hP hD hS
  replace hP1 : va_P D vwCl [(h0, .inr (1, f_h0)), (h0_sorts, .inl (tA 0, h0_sorts_n, .inl (upd h0_sorts_c (h0_count : Int32).toNatClampNeg l1))), (h0_starts, .inl (tA 0, h0_starts_n, .inl h0_starts_c)), (h0_amounts, .inl (tA 0, h0_amounts_n, .inl h0_amounts_c))] _ := hP1
  replace hD1 : va_D A [(h0, .inr (1, f_h0)), (h0_sorts, .inl (tA 0, h0_sorts_n, .inl (upd h0_sorts_c (h0_count : Int32).toNatClampNeg l1))), (h0_starts, .inl (tA 0, h0_starts_n, .inl h0_starts_c)), (h0_amounts, .inl (tA 0, h0_amounts_n, .inl h0_amounts_c))] := hD1
  refine lv_aload_n hx hb d_Wo_add_10 rfl (lv_at hl 0 rfl) ?_
  refine va_get (D := D) (ci := 1) (v := .ref h0_starts) (C := R_Wo) (T := T_Wo) (N := 6) hx hb hg i_Wo hown hK hP1 0 rfl rfl 4 (by decide) (hg _ k1_63) (fun _ h9 => h9) q_h0_starts d_Wo_add_11 ?_
  refine lv_aload_n hx hb d_Wo_add_14 rfl (lv_at hl 0 rfl) ?_
  refine va_get (D := D) (ci := 1) (v := .int h0_count) (C := R_Wo) (T := T_Wo) (N := 6) hx hb hg i_Wo hown hK hP1 0 rfl rfl 2 (by decide) (hg _ k1_57) (fun _ h9 => h9) q_h0_count d_Wo_add_15 ?_
  refine lv_iload_n hx hb d_Wo_add_18 rfl (lv_at hl 2 rfl) ?_
  obtain ⟨h9, hF⟩ := chk_some hF
  refine va_iast hx hb hK hP1 hD1 hS1 2 0 rfl rfl (vp_in_iff.mpr h9) d_Wo_add_19 (fun H2 locs2 hP2 hD2 hS2 => ?_)
  clear hP1 hD1 hS1
  replace hP2 : va_P D vwCl [(h0, .inr (1, f_h0)), (h0_sorts, .inl (tA 0, h0_sorts_n, .inl (upd h0_sorts_c (h0_count : Int32).toNatClampNeg l1))), (h0_starts, .inl (tA 0, h0_starts_n, .inl (upd h0_starts_c (h0_count : Int32).toNatClampNeg l2))), (h0_amounts, .inl (tA 0, h0_amounts_n, .inl h0_amounts_c))] _ := hP2
  replace hD2 : va_D A [(h0, .inr (1, f_h0)), (h0_sorts, .inl (tA 0, h0_sorts_n, .inl (upd h0_sorts_c (h0_count : Int32).toNatClampNeg l1))), (h0_starts, .inl (tA 0, h0_starts_n, .inl (upd h0_starts_c (h0_count : Int32).toNatClampNeg l2))), (h0_amounts, .inl (tA 0, h0_amounts_n, .inl h0_amounts_c))] := hD2
  refine lv_aload_n hx hb d_Wo_add_20 rfl (lv_at hl 0 rfl) ?_
  refine va_get (D := D) (ci := 1) (v := .ref h0_amounts) (C := R_Wo) (T := T_Wo) (N := 6) hx hb hg i_Wo hown hK hP2 0 rfl rfl 5 (by decide) (hg _ k1_66) (fun _ h9 => h9) q_h0_amounts d_Wo_add_21 ?_
  refine lv_aload_n hx hb d_Wo_add_24 rfl (lv_at hl 0 rfl) ?_
  refine va_get (D := D) (ci := 1) (v := .int h0_count) (C := R_Wo) (T := T_Wo) (N := 6) hx hb hg i_Wo hown hK hP2 0 rfl rfl 2 (by decide) (hg _ k1_57) (fun _ h9 => h9) q_h0_count d_Wo_add_25 ?_
  refine lv_iload_n hx hb d_Wo_add_28 rfl (lv_at hl 3 rfl) ?_
  obtain ⟨h9, hF⟩ := chk_some hF
  refine va_iast hx hb hK hP2 hD2 hS2 3 0 rfl rfl (vp_in_iff.mpr h9) d_Wo_add_29 (fun H3 locs3 hP3 hD3 hS3 => ?_)
  clear hP2 hD2 hS2
  replace hP3 : va_P D vwCl [(h0, .inr (1, f_h0)), (h0_sorts, .inl (tA 0, h0_sorts_n, .inl (upd h0_sorts_c (h0_count : Int32).toNatClampNeg l1))), (h0_starts, .inl (tA 0, h0_starts_n, .inl (upd h0_starts_c (h0_count : Int32).toNatClampNeg l2))), (h0_amounts, .inl (tA 0, h0_amounts_n, .inl (upd h0_amounts_c (h0_count : Int32).toNatClampNeg l3)))] _ := hP3
  replace hD3 : va_D A [(h0, .inr (1, f_h0)), (h0_sorts, .inl (tA 0, h0_sorts_n, .inl (upd h0_sorts_c (h0_count : Int32).toNatClampNeg l1))), (h0_starts, .inl (tA 0, h0_starts_n, .inl (upd h0_starts_c (h0_count : Int32).toNatClampNeg l2))), (h0_amounts, .inl (tA 0, h0_amounts_n, .inl (upd h0_amounts_c (h0_count : Int32).toNatClampNeg l3)))] := hD3
  refine lv_aload_n hx hb d_Wo_add_30 rfl (lv_at hl 0 rfl) ?_
  refine lv_dup hx hb d_Wo_add_31 rfl ?_
  refine va_get (D := D) (ci := 1) (v := .int h0_count) (C := R_Wo) (T := T_Wo) (N := 6) hx hb hg i_Wo hown hK hP3 0 rfl rfl 2 (by decide) (hg _ k1_57) (fun _ h9 => h9) q_h0_count d_Wo_add_32 ?_
  refine lv_iconst (v := 1) hx hb d_Wo_add_35 (by decide) ?_
  refine lv_iadd hx hb d_Wo_add_36 ?_
  refine va_put (D := D) (ci := 1) (v := .int (h0_count + 1)) (ty := .int) (C := R_Wo) (T := T_Wo) (N := 6) hx hb hg i_Wo t_Wo o_Wo n_Wo hown hK hP3 hD3 hS3 0 rfl rfl 2 (by decide) (hg _ k1_57) (fun _ h9 => h9) rfl (by decide +kernel) rfl rfl (zLen q_h0_count) d_Wo_add_37 (fun H4 locs4 hP4 hD4 hS4 => ?_)
  clear hP3 hD3 hS3
  replace hP4 : va_P D vwCl [(h0, .inr (1, f_h0.set 2 (.int (h0_count + 1)))), (h0_sorts, .inl (tA 0, h0_sorts_n, .inl (upd h0_sorts_c (h0_count : Int32).toNatClampNeg l1))), (h0_starts, .inl (tA 0, h0_starts_n, .inl (upd h0_starts_c (h0_count : Int32).toNatClampNeg l2))), (h0_amounts, .inl (tA 0, h0_amounts_n, .inl (upd h0_amounts_c (h0_count : Int32).toNatClampNeg l3)))] _ := hP4
  replace hD4 : va_D A [(h0, .inr (1, f_h0.set 2 (.int (h0_count + 1)))), (h0_sorts, .inl (tA 0, h0_sorts_n, .inl (upd h0_sorts_c (h0_count : Int32).toNatClampNeg l1))), (h0_starts, .inl (tA 0, h0_starts_n, .inl (upd h0_starts_c (h0_count : Int32).toNatClampNeg l2))), (h0_amounts, .inl (tA 0, h0_amounts_n, .inl (upd h0_amounts_c (h0_count : Int32).toNatClampNeg l3)))] := hD4
  replace hF := Option.some.inj hF
  subst hF
  exact zVret (post := (fun (u9 : List Value) => Fr [2] f0_h0 u9 ∧ u9[2]? = some (.int (((h0_count + 1), upd h0_sorts_c (h0_count : Int32).toNatClampNeg l1, upd h0_starts_c (h0_count : Int32).toNatClampNeg l2, upd h0_amounts_c (h0_count : Int32).toNatClampNeg l3).1)))) (W1 := (fun (u9 : List Value) => [(h0, .inr (1, u9)), (h0_sorts, .inl (tA 0, h0_sorts_n, .inl (((h0_count + 1), upd h0_sorts_c (h0_count : Int32).toNatClampNeg l1, upd h0_starts_c (h0_count : Int32).toNatClampNeg l2, upd h0_amounts_c (h0_count : Int32).toNatClampNeg l3).2.1))), (h0_starts, .inl (tA 0, h0_starts_n, .inl (((h0_count + 1), upd h0_sorts_c (h0_count : Int32).toNatClampNeg l1, upd h0_starts_c (h0_count : Int32).toNatClampNeg l2, upd h0_amounts_c (h0_count : Int32).toNatClampNeg l3).2.2.1))), (h0_amounts, .inl (tA 0, h0_amounts_n, .inl (((h0_count + 1), upd h0_sorts_c (h0_count : Int32).toNatClampNeg l1, upd h0_starts_c (h0_count : Int32).toNatClampNeg l2, upd h0_amounts_c (h0_count : Int32).toNatClampNeg l3).2.2.2)))])) hx hb hr hlocks hP4 hD4 hS4 (f_h0.set 2 (.int (h0_count + 1))) ⟨(Fr.set r_h0 (by decide)), (zSetS q_h0_count)⟩ rfl d_Wo_add_40
set_option maxHeartbeats 4000000 in
set_option maxRecDepth 100000 in
theorem m_Wo_add (l : Launch) (D : va_G) (tA : Nat → ClassId) (sz : Nat) (h0 h0_sorts h0_starts h0_amounts : Nat) (f0_h0 : List Value) (h0_sorts_n : Nat) (h0_starts_n : Nat) (h0_amounts_n : Nat) (l1 : Int32) (l2 : Int32) (l3 : Int32) (h0_count : Int32) (h0_sorts_c : Nat → Int32) (h0_starts_c : Nat → Int32) (h0_amounts_c : Nat → Int32) (q_h0_sorts : f0_h0[3]? = some (.ref h0_sorts)) (q_h0_starts : f0_h0[4]? = some (.ref h0_starts)) (q_h0_amounts : f0_h0[5]? = some (.ref h0_amounts)) (q_h0_count : f0_h0[2]? = some (.int h0_count)) (out : Int32 × (Nat → Int32) × (Nat → Int32) × (Nat → Int32)) (hF : f_Wo_add h0_sorts_n h0_starts_n h0_amounts_n l1 l2 l3 h0_count h0_sorts_c h0_starts_c h0_amounts_c = some out) : zMv l ({ cls := "ChanceArena$Words", name := "add", desc := "(III)V" } : Jvm.MethodName) (zW (Jvm.Cond.code ({ cls := "ChanceArena$Words", name := "add", desc := "(III)V" } : Jvm.MethodName) prog_13_method_4_code (4 : Nat) (Option.none : Option Jvm.ClassFile.FieldType))) { frames := 0, cells := 0, slots := 0, locals := 0 } [.ref h0, .int l1, .int l2, .int l3] D tA [(h0, .inr (1, f0_h0)), (h0_sorts, .inl (tA 0, h0_sorts_n, .inl h0_sorts_c)), (h0_starts, .inl (tA 0, h0_starts_n, .inl h0_starts_c)), (h0_amounts, .inl (tA 0, h0_amounts_n, .inl h0_amounts_c))] sz (fun (u9 : List Value) => Fr [2] f0_h0 u9 ∧ u9[2]? = some (.int out.1)) (fun (u9 : List Value) => [(h0, .inr (1, u9)), (h0_sorts, .inl (tA 0, h0_sorts_n, .inl out.2.1)), (h0_starts, .inl (tA 0, h0_starts_n, .inl out.2.2.1)), (h0_amounts, .inl (tA 0, h0_amounts_n, .inl out.2.2.2))]) 0 0 := by
  refine zOpen (l := l) (y := ({ cls := "ChanceArena$Words", name := "add", desc := "(III)V" } : Jvm.MethodName)) (ws := zW (Jvm.Cond.code ({ cls := "ChanceArena$Words", name := "add", desc := "(III)V" } : Jvm.MethodName) prog_13_method_4_code (4 : Nat) (Option.none : Option Jvm.ClassFile.FieldType))) (rm := { frames := 0, cells := 0, slots := 0, locals := 0 }) (av := [.ref h0, .int l1, .int l2, .int l3]) (D := D) (tA := tA) (W0 := [(h0, .inr (1, f0_h0)), (h0_sorts, .inl (tA 0, h0_sorts_n, .inl h0_sorts_c)), (h0_starts, .inl (tA 0, h0_starts_n, .inl h0_starts_c)), (h0_amounts, .inl (tA 0, h0_amounts_n, .inl h0_amounts_c))]) (Wm := [(h0, .inr (1, f0_h0)), (h0_sorts, .inl (tA 0, h0_sorts_n, .inl h0_sorts_c)), (h0_starts, .inl (tA 0, h0_starts_n, .inl h0_starts_c)), (h0_amounts, .inl (tA 0, h0_amounts_n, .inl h0_amounts_c))]) (sz := sz) (mc := 0) (ms := 0) (fun A => va_Qv (fun (u9 : List Value) => Fr [2] f0_h0 u9 ∧ u9[2]? = some (.int out.1)) (zPost D A (fun (u9 : List Value) => [(h0, .inr (1, u9)), (h0_sorts, .inl (tA 0, h0_sorts_n, .inl out.2.1)), (h0_starts, .inl (tA 0, h0_starts_n, .inl out.2.2.1)), (h0_amounts, .inl (tA 0, h0_amounts_n, .inl out.2.2.2))])) A) (lv := [(0, .ref h0), (1, .int l1), (2, .int l2), (3, .int l3)]) (by decide) rfl (Nat.le_of_ble_eq_true rfl) rfl ?_
  intro p e s m below meth c A ls hx hb hr hml hh hg hown hlocks hnm hK hA hP hD0 hAw hS hl
  have hD := zD hD0 hAw
  exact b_Wo_add_0 hx hb hr hml hh hg hown hlocks hK hA   f0_h0 _ _ _ hF q_h0_sorts q_h0_starts q_h0_amounts q_h0_count Fr.rfl hP hD hS hl
def f_Wo_takeNumber (h0_sorts_n : Nat) (h0_starts_n : Nat) (h0_amounts_n : Nat) (h0_tape_n : Nat) (l1 : Int32) (h0_length : Int32) (h0_tape_c : Nat → Int32) : Nat → Nat → Int32 → (Nat → Int32) → (Nat → Int32) → (Nat → Int32) → Int32 → Int32 → Option (Int32 × Int32 × (Nat → Int32) × (Nat → Int32) × (Nat → Int32))
  | 0, _, _, _, _, _, _, _ => none
  | n + 1, 0, h0_count, h0_sorts_c, h0_starts_c, h0_amounts_c, l2, l3 => chk True (f_Wo_takeNumber h0_sorts_n h0_starts_n h0_amounts_n h0_tape_n l1 h0_length h0_tape_c n 1 h0_count h0_sorts_c h0_starts_c h0_amounts_c 0 l1)
  | n + 1, 1, h0_count, h0_sorts_c, h0_starts_c, h0_amounts_c, l2, l3 => if (h0_length : Int32) ≤ l3 then (if (9 : Int32) < (l3 - l1) then Option.bind (f_Wo_add h0_sorts_n h0_starts_n h0_amounts_n 1 l1 l2 h0_count h0_sorts_c h0_starts_c h0_amounts_c) (fun o1 => some (h0_length, o1.1, o1.2.1, o1.2.2.1, o1.2.2.2)) else Option.bind (f_Wo_add h0_sorts_n h0_starts_n h0_amounts_n 3 l1 l2 h0_count h0_sorts_c h0_starts_c h0_amounts_c) (fun o2 => some (l3, o2.1, o2.2.1, o2.2.2.1, o2.2.2.2))) else chk (0 ≤ (l3 : Int32).toInt ∧ (l3 : Int32).toInt < h0_tape_n) (Option.bind (f_Wo_isDigit (h0_tape_c (l3 : Int32).toNatClampNeg)) (fun o3 => if (o3 : Int32) = 0 then (if (9 : Int32) < (l3 - l1) then Option.bind (f_Wo_add h0_sorts_n h0_starts_n h0_amounts_n 1 l1 l2 h0_count h0_sorts_c h0_starts_c h0_amounts_c) (fun o4 => some (h0_length, o4.1, o4.2.1, o4.2.2.1, o4.2.2.2)) else Option.bind (f_Wo_add h0_sorts_n h0_starts_n h0_amounts_n 3 l1 l2 h0_count h0_sorts_c h0_starts_c h0_amounts_c) (fun o5 => some (l3, o5.1, o5.2.1, o5.2.2.1, o5.2.2.2))) else if (9 : Int32) ≤ (l3 - l1) then f_Wo_takeNumber h0_sorts_n h0_starts_n h0_amounts_n h0_tape_n l1 h0_length h0_tape_c n 1 h0_count h0_sorts_c h0_starts_c h0_amounts_c 0 (l3 + Int32.ofInt 1) else chk (0 ≤ (l3 : Int32).toInt ∧ (l3 : Int32).toInt < h0_tape_n) (f_Wo_takeNumber h0_sorts_n h0_starts_n h0_amounts_n h0_tape_n l1 h0_length h0_tape_c n 1 h0_count h0_sorts_c h0_starts_c h0_amounts_c ((10 * l2) + ((h0_tape_c (l3 : Int32).toNatClampNeg) - 48)) (l3 + Int32.ofInt 1))))
  | _ + 1, _ + 2, _, _, _, _, _, _ => none
theorem e_Wo_takeNumber_0 (h0_sorts_n : Nat) (h0_starts_n : Nat) (h0_amounts_n : Nat) (h0_tape_n : Nat) (l1 : Int32) (h0_length : Int32) (h0_tape_c : Nat → Int32) (n : Nat) (h0_count : Int32) (h0_sorts_c : Nat → Int32) (h0_starts_c : Nat → Int32) (h0_amounts_c : Nat → Int32) (l2 : Int32) (l3 : Int32) : f_Wo_takeNumber h0_sorts_n h0_starts_n h0_amounts_n h0_tape_n l1 h0_length h0_tape_c (n + 1) 0 h0_count h0_sorts_c h0_starts_c h0_amounts_c l2 l3 = chk True (f_Wo_takeNumber h0_sorts_n h0_starts_n h0_amounts_n h0_tape_n l1 h0_length h0_tape_c n 1 h0_count h0_sorts_c h0_starts_c h0_amounts_c 0 l1) := by rw [f_Wo_takeNumber]
theorem e_Wo_takeNumber_1 (h0_sorts_n : Nat) (h0_starts_n : Nat) (h0_amounts_n : Nat) (h0_tape_n : Nat) (l1 : Int32) (h0_length : Int32) (h0_tape_c : Nat → Int32) (n : Nat) (h0_count : Int32) (h0_sorts_c : Nat → Int32) (h0_starts_c : Nat → Int32) (h0_amounts_c : Nat → Int32) (l2 : Int32) (l3 : Int32) : f_Wo_takeNumber h0_sorts_n h0_starts_n h0_amounts_n h0_tape_n l1 h0_length h0_tape_c (n + 1) 1 h0_count h0_sorts_c h0_starts_c h0_amounts_c l2 l3 = if (h0_length : Int32) ≤ l3 then (if (9 : Int32) < (l3 - l1) then Option.bind (f_Wo_add h0_sorts_n h0_starts_n h0_amounts_n 1 l1 l2 h0_count h0_sorts_c h0_starts_c h0_amounts_c) (fun o1 => some (h0_length, o1.1, o1.2.1, o1.2.2.1, o1.2.2.2)) else Option.bind (f_Wo_add h0_sorts_n h0_starts_n h0_amounts_n 3 l1 l2 h0_count h0_sorts_c h0_starts_c h0_amounts_c) (fun o2 => some (l3, o2.1, o2.2.1, o2.2.2.1, o2.2.2.2))) else chk (0 ≤ (l3 : Int32).toInt ∧ (l3 : Int32).toInt < h0_tape_n) (Option.bind (f_Wo_isDigit (h0_tape_c (l3 : Int32).toNatClampNeg)) (fun o3 => if (o3 : Int32) = 0 then (if (9 : Int32) < (l3 - l1) then Option.bind (f_Wo_add h0_sorts_n h0_starts_n h0_amounts_n 1 l1 l2 h0_count h0_sorts_c h0_starts_c h0_amounts_c) (fun o4 => some (h0_length, o4.1, o4.2.1, o4.2.2.1, o4.2.2.2)) else Option.bind (f_Wo_add h0_sorts_n h0_starts_n h0_amounts_n 3 l1 l2 h0_count h0_sorts_c h0_starts_c h0_amounts_c) (fun o5 => some (l3, o5.1, o5.2.1, o5.2.2.1, o5.2.2.2))) else if (9 : Int32) ≤ (l3 - l1) then f_Wo_takeNumber h0_sorts_n h0_starts_n h0_amounts_n h0_tape_n l1 h0_length h0_tape_c n 1 h0_count h0_sorts_c h0_starts_c h0_amounts_c 0 (l3 + Int32.ofInt 1) else chk (0 ≤ (l3 : Int32).toInt ∧ (l3 : Int32).toInt < h0_tape_n) (f_Wo_takeNumber h0_sorts_n h0_starts_n h0_amounts_n h0_tape_n l1 h0_length h0_tape_c n 1 h0_count h0_sorts_c h0_starts_c h0_amounts_c ((10 * l2) + ((h0_tape_c (l3 : Int32).toNatClampNeg) - 48)) (l3 + Int32.ofInt 1)))) := by rw [f_Wo_takeNumber]
theorem z_Wo_takeNumber (h0_sorts_n : Nat) (h0_starts_n : Nat) (h0_amounts_n : Nat) (h0_tape_n : Nat) (l1 : Int32) (h0_length : Int32) (h0_tape_c : Nat → Int32) (h : Nat) (h0_count : Int32) (h0_sorts_c : Nat → Int32) (h0_starts_c : Nat → Int32) (h0_amounts_c : Nat → Int32) (l2 : Int32) (l3 : Int32) : f_Wo_takeNumber h0_sorts_n h0_starts_n h0_amounts_n h0_tape_n l1 h0_length h0_tape_c 0 h h0_count h0_sorts_c h0_starts_c h0_amounts_c l2 l3 = none := by rw [f_Wo_takeNumber]
set_option maxHeartbeats 4000000 in
set_option maxRecDepth 100000 in
theorem b_Wo_takeNumber_0 {p : Program} {l : Launch} {e : Env} {s : State} {m : MethodId} {args : Array Value} {below : List Frame} {meth : Method} {c : Code} {D : va_G} {tA : Nat → ClassId} {A : Nat → Prop} {h0 h0_sorts h0_starts h0_amounts h0_tape : Nat} {f0_h0 : List Value} {h0_sorts_n : Nat} {h0_starts_n : Nat} {h0_amounts_n : Nat} {h0_tape_n : Nat} {l1 : Int32} {h0_length : Int32} {h0_tape_c : Nat → Int32} {out : Int32 × Int32 × (Nat → Int32) × (Nat → Int32) × (Nat → Int32)} (hx : p.tables.exec = Jvm.exec) (hb : c.code = prog_13_method_8_code) (hr : meth.sig.returnType = (Option.some Jvm.ClassFile.FieldType.int)) (hml : c.maxLocals = 5) (hh : zH s) (hg : ∀ w ∈ lw_R, w.before args s = true) (hown : s.vm.findClass "ChanceArena$Words" = some m.cls) (hlocks : meth.locks = false) (hK : va_K D vwCl (zT tA) s) (hA : ∀ q, s.heap.size ≤ q → A q) {n : Nat} (ih1 : ∀ (h0_count : Int32) (h0_sorts_c : Nat → Int32) (h0_starts_c : Nat → Int32) (h0_amounts_c : Nat → Int32) (l2 : Int32) (l3 : Int32) (f_h0 : List Value) (H : Heap) (locs : List Loc) (ls : Array Slot), f_Wo_takeNumber h0_sorts_n h0_starts_n h0_amounts_n h0_tape_n l1 h0_length h0_tape_c n 1 h0_count h0_sorts_c h0_starts_c h0_amounts_c l2 l3 = some out → f_h0[3]? = some (.ref h0_sorts) → f_h0[4]? = some (.ref h0_starts) → f_h0[5]? = some (.ref h0_amounts) → f_h0[0]? = some (.ref h0_tape) → f_h0[1]? = some (.int h0_length) → f_h0[2]? = some (.int h0_count) → Fr [2] f0_h0 f_h0 → va_P D vwCl [(h0, .inr (1, f_h0)), (h0_sorts, .inl (tA 0, h0_sorts_n, .inl h0_sorts_c)), (h0_starts, .inl (tA 0, h0_starts_n, .inl h0_starts_c)), (h0_amounts, .inl (tA 0, h0_amounts_n, .inl h0_amounts_c)), (h0_tape, .inl (tA 2, h0_tape_n, .inl h0_tape_c))] H → va_D A [(h0, .inr (1, f_h0)), (h0_sorts, .inl (tA 0, h0_sorts_n, .inl h0_sorts_c)), (h0_starts, .inl (tA 0, h0_starts_n, .inl h0_starts_c)), (h0_amounts, .inl (tA 0, h0_amounts_n, .inl h0_amounts_c)), (h0_tape, .inl (tA 2, h0_tape_n, .inl h0_tape_c))] → va_S A s.heap H locs → lv_has ls 5 [(0, .ref h0), (1, .int l1), (2, .int l2), (3, .int l3)] → W p l e { frames := 1, cells := 0, slots := 0, locals := 23 } s m args below meth c H locs 0 0 (MQ below (va_Qi (fun (r9 : Int32) (u9 : List Value) => r9 = out.1 ∧ Fr [2] f0_h0 u9 ∧ u9[2]? = some (.int out.2.1)) (zPost D A (fun (u9 : List Value) => [(h0, .inr (1, u9)), (h0_sorts, .inl (tA 0, h0_sorts_n, .inl out.2.2.1)), (h0_starts, .inl (tA 0, h0_starts_n, .inl out.2.2.2.1)), (h0_amounts, .inl (tA 0, h0_amounts_n, .inl out.2.2.2.2)), (h0_tape, .inl (tA 2, h0_tape_n, .inl h0_tape_c))])) A) args s 0 0 A) (F0 m 4 ls [])) : ∀ (h0_count : Int32) (h0_sorts_c : Nat → Int32) (h0_starts_c : Nat → Int32) (h0_amounts_c : Nat → Int32) (l2 : Int32) (l3 : Int32) (f_h0 : List Value) (H : Heap) (locs : List Loc) (ls : Array Slot), f_Wo_takeNumber h0_sorts_n h0_starts_n h0_amounts_n h0_tape_n l1 h0_length h0_tape_c (n + 1) 0 h0_count h0_sorts_c h0_starts_c h0_amounts_c l2 l3 = some out → f_h0[3]? = some (.ref h0_sorts) → f_h0[4]? = some (.ref h0_starts) → f_h0[5]? = some (.ref h0_amounts) → f_h0[0]? = some (.ref h0_tape) → f_h0[1]? = some (.int h0_length) → f_h0[2]? = some (.int h0_count) → Fr [2] f0_h0 f_h0 → va_P D vwCl [(h0, .inr (1, f_h0)), (h0_sorts, .inl (tA 0, h0_sorts_n, .inl h0_sorts_c)), (h0_starts, .inl (tA 0, h0_starts_n, .inl h0_starts_c)), (h0_amounts, .inl (tA 0, h0_amounts_n, .inl h0_amounts_c)), (h0_tape, .inl (tA 2, h0_tape_n, .inl h0_tape_c))] H → va_D A [(h0, .inr (1, f_h0)), (h0_sorts, .inl (tA 0, h0_sorts_n, .inl h0_sorts_c)), (h0_starts, .inl (tA 0, h0_starts_n, .inl h0_starts_c)), (h0_amounts, .inl (tA 0, h0_amounts_n, .inl h0_amounts_c)), (h0_tape, .inl (tA 2, h0_tape_n, .inl h0_tape_c))] → va_S A s.heap H locs → lv_has ls 5 [(0, .ref h0), (1, .int l1)] → W p l e { frames := 1, cells := 0, slots := 0, locals := 23 } s m args below meth c H locs 0 0 (MQ below (va_Qi (fun (r9 : Int32) (u9 : List Value) => r9 = out.1 ∧ Fr [2] f0_h0 u9 ∧ u9[2]? = some (.int out.2.1)) (zPost D A (fun (u9 : List Value) => [(h0, .inr (1, u9)), (h0_sorts, .inl (tA 0, h0_sorts_n, .inl out.2.2.1)), (h0_starts, .inl (tA 0, h0_starts_n, .inl out.2.2.2.1)), (h0_amounts, .inl (tA 0, h0_amounts_n, .inl out.2.2.2.2)), (h0_tape, .inl (tA 2, h0_tape_n, .inl h0_tape_c))])) A) args s 0 0 A) (F0 m 0 ls []) := by
  intro h0_count h0_sorts_c h0_starts_c h0_amounts_c l2 l3  f_h0 H locs ls hF q_h0_sorts q_h0_starts q_h0_amounts q_h0_tape q_h0_length q_h0_count r_h0 hP hD hS hl
  rw [e_Wo_takeNumber_0] at hF
  obtain ⟨_, hF⟩ := chk_some hF
  refine lv_iconst (v := 0) hx hb d_Wo_takeNumber_0 (by decide) ?_
  refine lv_istore_n (lv' := [(2, .int 0), (0, .ref h0), (1, .int l1)]) hx hb d_Wo_takeNumber_1 rfl hl (by decide) rfl (fun ls hl => ?_)
  refine lv_iload_n hx hb d_Wo_takeNumber_2 rfl (lv_at hl 2 rfl) ?_
  refine lv_istore_n (lv' := [(3, .int l1), (2, .int 0), (0, .ref h0), (1, .int l1)]) hx hb d_Wo_takeNumber_3 rfl hl (by decide) rfl (fun ls hl => ?_)
  exact ih1 h0_count h0_sorts_c h0_starts_c h0_amounts_c 0 l1  f_h0 _ _ _ hF q_h0_sorts q_h0_starts q_h0_amounts q_h0_tape q_h0_length q_h0_count r_h0 hP hD hS (lv_sub hl [2, 3, 1, 0] rfl)
set_option maxHeartbeats 4000000 in
set_option maxRecDepth 100000 in
theorem b_Wo_takeNumber_1 {p : Program} {l : Launch} {e : Env} {s : State} {m : MethodId} {args : Array Value} {below : List Frame} {meth : Method} {c : Code} {D : va_G} {tA : Nat → ClassId} {A : Nat → Prop} {h0 h0_sorts h0_starts h0_amounts h0_tape : Nat} {f0_h0 : List Value} {h0_sorts_n : Nat} {h0_starts_n : Nat} {h0_amounts_n : Nat} {h0_tape_n : Nat} {l1 : Int32} {h0_length : Int32} {h0_tape_c : Nat → Int32} {out : Int32 × Int32 × (Nat → Int32) × (Nat → Int32) × (Nat → Int32)} (hx : p.tables.exec = Jvm.exec) (hb : c.code = prog_13_method_8_code) (hr : meth.sig.returnType = (Option.some Jvm.ClassFile.FieldType.int)) (hml : c.maxLocals = 5) (hh : zH s) (hg : ∀ w ∈ lw_R, w.before args s = true) (hown : s.vm.findClass "ChanceArena$Words" = some m.cls) (hlocks : meth.locks = false) (hK : va_K D vwCl (zT tA) s) (hA : ∀ q, s.heap.size ≤ q → A q) {n : Nat} (ih1 : ∀ (h0_count : Int32) (h0_sorts_c : Nat → Int32) (h0_starts_c : Nat → Int32) (h0_amounts_c : Nat → Int32) (l2 : Int32) (l3 : Int32) (f_h0 : List Value) (H : Heap) (locs : List Loc) (ls : Array Slot), f_Wo_takeNumber h0_sorts_n h0_starts_n h0_amounts_n h0_tape_n l1 h0_length h0_tape_c n 1 h0_count h0_sorts_c h0_starts_c h0_amounts_c l2 l3 = some out → f_h0[3]? = some (.ref h0_sorts) → f_h0[4]? = some (.ref h0_starts) → f_h0[5]? = some (.ref h0_amounts) → f_h0[0]? = some (.ref h0_tape) → f_h0[1]? = some (.int h0_length) → f_h0[2]? = some (.int h0_count) → Fr [2] f0_h0 f_h0 → va_P D vwCl [(h0, .inr (1, f_h0)), (h0_sorts, .inl (tA 0, h0_sorts_n, .inl h0_sorts_c)), (h0_starts, .inl (tA 0, h0_starts_n, .inl h0_starts_c)), (h0_amounts, .inl (tA 0, h0_amounts_n, .inl h0_amounts_c)), (h0_tape, .inl (tA 2, h0_tape_n, .inl h0_tape_c))] H → va_D A [(h0, .inr (1, f_h0)), (h0_sorts, .inl (tA 0, h0_sorts_n, .inl h0_sorts_c)), (h0_starts, .inl (tA 0, h0_starts_n, .inl h0_starts_c)), (h0_amounts, .inl (tA 0, h0_amounts_n, .inl h0_amounts_c)), (h0_tape, .inl (tA 2, h0_tape_n, .inl h0_tape_c))] → va_S A s.heap H locs → lv_has ls 5 [(0, .ref h0), (1, .int l1), (2, .int l2), (3, .int l3)] → W p l e { frames := 1, cells := 0, slots := 0, locals := 23 } s m args below meth c H locs 0 0 (MQ below (va_Qi (fun (r9 : Int32) (u9 : List Value) => r9 = out.1 ∧ Fr [2] f0_h0 u9 ∧ u9[2]? = some (.int out.2.1)) (zPost D A (fun (u9 : List Value) => [(h0, .inr (1, u9)), (h0_sorts, .inl (tA 0, h0_sorts_n, .inl out.2.2.1)), (h0_starts, .inl (tA 0, h0_starts_n, .inl out.2.2.2.1)), (h0_amounts, .inl (tA 0, h0_amounts_n, .inl out.2.2.2.2)), (h0_tape, .inl (tA 2, h0_tape_n, .inl h0_tape_c))])) A) args s 0 0 A) (F0 m 4 ls [])) : ∀ (h0_count : Int32) (h0_sorts_c : Nat → Int32) (h0_starts_c : Nat → Int32) (h0_amounts_c : Nat → Int32) (l2 : Int32) (l3 : Int32) (f_h0 : List Value) (H : Heap) (locs : List Loc) (ls : Array Slot), f_Wo_takeNumber h0_sorts_n h0_starts_n h0_amounts_n h0_tape_n l1 h0_length h0_tape_c (n + 1) 1 h0_count h0_sorts_c h0_starts_c h0_amounts_c l2 l3 = some out → f_h0[3]? = some (.ref h0_sorts) → f_h0[4]? = some (.ref h0_starts) → f_h0[5]? = some (.ref h0_amounts) → f_h0[0]? = some (.ref h0_tape) → f_h0[1]? = some (.int h0_length) → f_h0[2]? = some (.int h0_count) → Fr [2] f0_h0 f_h0 → va_P D vwCl [(h0, .inr (1, f_h0)), (h0_sorts, .inl (tA 0, h0_sorts_n, .inl h0_sorts_c)), (h0_starts, .inl (tA 0, h0_starts_n, .inl h0_starts_c)), (h0_amounts, .inl (tA 0, h0_amounts_n, .inl h0_amounts_c)), (h0_tape, .inl (tA 2, h0_tape_n, .inl h0_tape_c))] H → va_D A [(h0, .inr (1, f_h0)), (h0_sorts, .inl (tA 0, h0_sorts_n, .inl h0_sorts_c)), (h0_starts, .inl (tA 0, h0_starts_n, .inl h0_starts_c)), (h0_amounts, .inl (tA 0, h0_amounts_n, .inl h0_amounts_c)), (h0_tape, .inl (tA 2, h0_tape_n, .inl h0_tape_c))] → va_S A s.heap H locs → lv_has ls 5 [(0, .ref h0), (1, .int l1), (2, .int l2), (3, .int l3)] → W p l e { frames := 1, cells := 0, slots := 0, locals := 23 } s m args below meth c H locs 0 0 (MQ below (va_Qi (fun (r9 : Int32) (u9 : List Value) => r9 = out.1 ∧ Fr [2] f0_h0 u9 ∧ u9[2]? = some (.int out.2.1)) (zPost D A (fun (u9 : List Value) => [(h0, .inr (1, u9)), (h0_sorts, .inl (tA 0, h0_sorts_n, .inl out.2.2.1)), (h0_starts, .inl (tA 0, h0_starts_n, .inl out.2.2.2.1)), (h0_amounts, .inl (tA 0, h0_amounts_n, .inl out.2.2.2.2)), (h0_tape, .inl (tA 2, h0_tape_n, .inl h0_tape_c))])) A) args s 0 0 A) (F0 m 4 ls []) := by
  intro h0_count h0_sorts_c h0_starts_c h0_amounts_c l2 l3  f_h0 H locs ls hF q_h0_sorts q_h0_starts q_h0_amounts q_h0_tape q_h0_length q_h0_count r_h0 hP hD hS hl
  rw [e_Wo_takeNumber_1] at hF
  refine lv_iload_n hx hb d_Wo_takeNumber_4 rfl (lv_at hl 3 rfl) ?_
  refine lv_aload_n hx hb d_Wo_takeNumber_5 rfl (lv_at hl 0 rfl) ?_
  refine va_get (D := D) (ci := 1) (v := .int h0_length) (C := R_Wo) (T := T_Wo) (N := 6) hx hb hg i_Wo hown hK hP 0 rfl rfl 1 (by decide) (hg _ k1_55) (fun _ h9 => h9) q_h0_length d_Wo_takeNumber_6 ?_
  refine lv_icmp_ge (tgt := 57) hx hb d_Wo_takeNumber_9 (by decide) (fun c9 => ?_) (fun c9 => ?_)
  · replace hF := ifp c9 hF
    refine lv_iload_n hx hb d_Wo_takeNumber_57 rfl (lv_at hl 3 rfl) ?_
    refine lv_iload_n hx hb d_Wo_takeNumber_58 rfl (lv_at hl 1 rfl) ?_
    refine lv_isub hx hb d_Wo_takeNumber_59 ?_
    refine lv_bipush (v := 9) hx hb d_Wo_takeNumber_60 (by decide) ?_
    refine lv_icmp_gt (tgt := 69) hx hb d_Wo_takeNumber_62 (by decide) (fun c9 => ?_) (fun c9 => ?_)
    · replace hF := ifp c9 hF
      refine lv_iconst (v := 0) hx hb d_Wo_takeNumber_69 (by decide) ?_
      refine lv_istore (lv' := [(4, .int 0), (0, .ref h0), (1, .int l1), (2, .int l2), (3, .int l3)]) hx hb d_Wo_takeNumber_70 hl (by decide) rfl (fun ls hl => ?_)
      refine lv_aload_n hx hb d_Wo_takeNumber_72 rfl (lv_at hl 1 rfl) ?_
      refine lv_iload hx hb d_Wo_takeNumber_73 (lv_at hl 0 rfl) ?_
      refine lv_if_eq (tgt := 82) hx hb d_Wo_takeNumber_75 (by decide) (fun _ => ?_) (fun c9 => absurd (by decide) c9)
      refine lv_iconst (v := 1) hx hb d_Wo_takeNumber_82 (by decide) ?_
      refine lv_iload_n hx hb d_Wo_takeNumber_83 rfl (lv_at hl 2 rfl) ?_
      refine lv_iload_n hx hb d_Wo_takeNumber_84 rfl (lv_at hl 3 rfl) ?_
      obtain ⟨o1, h1, hF⟩ := bsome hF
      refine zCallv (wc := [(h0, .inr (1, f_h0)), (h0_sorts, .inl (tA 0, h0_sorts_n, .inl h0_sorts_c)), (h0_starts, .inl (tA 0, h0_starts_n, .inl h0_starts_c)), (h0_amounts, .inl (tA 0, h0_amounts_n, .inl h0_amounts_c))]) (wr := [(h0_tape, .inl (tA 2, h0_tape_n, .inl h0_tape_c))]) hP hD hS hA [0, 1, 2, 3] [4] rfl rfl (by decide) (by decide) (va_runV (As := [.int 1, .int l1, .int l2]) (rest := []) ⟨hx, hb, hml, hown, hg⟩ (m_Wo_add l D tA _ h0 h0_sorts h0_starts h0_amounts f_h0 h0_sorts_n h0_starts_n h0_amounts_n 1 l1 l2 h0_count h0_sorts_c h0_starts_c h0_amounts_c q_h0_sorts q_h0_starts q_h0_amounts q_h0_count o1 h1) (zV 3 hg k4_107 k4_109 ks_Wo_add k1_2 k4_110 rfl rfl (by decide +kernel) ⟨(Nat.le_of_ble_eq_true rfl), (Nat.le_of_ble_eq_true rfl)⟩) (zPreV hh hK hP hD [0, 1, 2, 3] (by decide) rfl (ci := 1) rfl 0 rfl) rfl rfl hl.1 rfl (lv_room (Nat.le_of_ble_eq_true rfl)) d_Wo_takeNumber_85 ⟨(Nat.le_of_ble_eq_true rfl), (Nat.le_of_ble_eq_true rfl)⟩) (fun v1_h0 H1 locs1 e1 hP1 hD1 hS1 => ?_)
      clear hP hD hS
      refine W.cs (cells' := 0) (slots' := 0) rfl rfl ?_
      obtain ⟨r1_h0, q1_h0_count⟩ := e1
      replace hP1 : va_P D vwCl [(h0_tape, .inl (tA 2, h0_tape_n, .inl h0_tape_c)), (h0, .inr (1, v1_h0)), (h0_sorts, .inl (tA 0, h0_sorts_n, .inl o1.2.1)), (h0_starts, .inl (tA 0, h0_starts_n, .inl o1.2.2.1)), (h0_amounts, .inl (tA 0, h0_amounts_n, .inl o1.2.2.2))] _ := hP1
      replace hD1 : va_D A [(h0_tape, .inl (tA 2, h0_tape_n, .inl h0_tape_c)), (h0, .inr (1, v1_h0)), (h0_sorts, .inl (tA 0, h0_sorts_n, .inl o1.2.1)), (h0_starts, .inl (tA 0, h0_starts_n, .inl o1.2.2.1)), (h0_amounts, .inl (tA 0, h0_amounts_n, .inl o1.2.2.2))] := hD1
      refine lv_iload hx hb d_Wo_takeNumber_88 (lv_at hl 0 rfl) ?_
      refine lv_if_eq (tgt := 97) hx hb d_Wo_takeNumber_90 (by decide) (fun _ => ?_) (fun c9 => absurd (by decide) c9)
      refine lv_aload_n hx hb d_Wo_takeNumber_97 rfl (lv_at hl 1 rfl) ?_
      refine va_get (D := D) (ci := 1) (v := .int h0_length) (C := R_Wo) (T := T_Wo) (N := 6) hx hb hg i_Wo hown hK hP1 1 rfl rfl 1 (by decide) (hg _ k1_55) (fun _ h9 => h9) (Fr.get r1_h0 (by decide) q_h0_length) d_Wo_takeNumber_98 ?_
      replace hF := Option.some.inj hF
      subst hF
      exact zZret (post := (fun (r9 : Int32) (u9 : List Value) => r9 = (h0_length, o1.1, o1.2.1, o1.2.2.1, o1.2.2.2).1 ∧ Fr [2] f0_h0 u9 ∧ u9[2]? = some (.int ((h0_length, o1.1, o1.2.1, o1.2.2.1, o1.2.2.2).2.1)))) (W1 := (fun (u9 : List Value) => [(h0, .inr (1, u9)), (h0_sorts, .inl (tA 0, h0_sorts_n, .inl ((h0_length, o1.1, o1.2.1, o1.2.2.1, o1.2.2.2).2.2.1))), (h0_starts, .inl (tA 0, h0_starts_n, .inl ((h0_length, o1.1, o1.2.1, o1.2.2.1, o1.2.2.2).2.2.2.1))), (h0_amounts, .inl (tA 0, h0_amounts_n, .inl ((h0_length, o1.1, o1.2.1, o1.2.2.1, o1.2.2.2).2.2.2.2))), (h0_tape, .inl (tA 2, h0_tape_n, .inl h0_tape_c))])) (v := h0_length) hx hb hr rfl hlocks (zPc (wc := [(h0, .inr (1, v1_h0)), (h0_sorts, .inl (tA 0, h0_sorts_n, .inl o1.2.1)), (h0_starts, .inl (tA 0, h0_starts_n, .inl o1.2.2.1)), (h0_amounts, .inl (tA 0, h0_amounts_n, .inl o1.2.2.2)), (h0_tape, .inl (tA 2, h0_tape_n, .inl h0_tape_c))]) hP1 [1, 2, 3, 4, 0] rfl) (va_D.sub (ws' := [(h0, .inr (1, v1_h0)), (h0_sorts, .inl (tA 0, h0_sorts_n, .inl o1.2.1)), (h0_starts, .inl (tA 0, h0_starts_n, .inl o1.2.2.1)), (h0_amounts, .inl (tA 0, h0_amounts_n, .inl o1.2.2.2)), (h0_tape, .inl (tA 2, h0_tape_n, .inl h0_tape_c))]) hD1 [1, 2, 3, 4, 0] (by decide) rfl) hS1 (v1_h0) ⟨rfl, (Fr.trans r_h0 (Fr.sub r1_h0 (by decide))), q1_h0_count⟩ rfl d_Wo_takeNumber_101
    · replace hF := ifn c9 hF
      refine lv_iconst (v := 1) hx hb d_Wo_takeNumber_65 (by decide) ?_
      refine lv_goto (tgt := 70) hx hb d_Wo_takeNumber_66 (by decide) ?_
      refine lv_istore (lv' := [(4, .int 1), (0, .ref h0), (1, .int l1), (2, .int l2), (3, .int l3)]) hx hb d_Wo_takeNumber_70 hl (by decide) rfl (fun ls hl => ?_)
      refine lv_aload_n hx hb d_Wo_takeNumber_72 rfl (lv_at hl 1 rfl) ?_
      refine lv_iload hx hb d_Wo_takeNumber_73 (lv_at hl 0 rfl) ?_
      refine lv_if_eq (tgt := 82) hx hb d_Wo_takeNumber_75 (by decide) (fun c9 => absurd c9 (by decide)) (fun _ => ?_)
      refine lv_iconst (v := 3) hx hb d_Wo_takeNumber_78 (by decide) ?_
      refine lv_goto (tgt := 83) hx hb d_Wo_takeNumber_79 (by decide) ?_
      refine lv_iload_n hx hb d_Wo_takeNumber_83 rfl (lv_at hl 2 rfl) ?_
      refine lv_iload_n hx hb d_Wo_takeNumber_84 rfl (lv_at hl 3 rfl) ?_
      obtain ⟨o2, h2, hF⟩ := bsome hF
      refine zCallv (wc := [(h0, .inr (1, f_h0)), (h0_sorts, .inl (tA 0, h0_sorts_n, .inl h0_sorts_c)), (h0_starts, .inl (tA 0, h0_starts_n, .inl h0_starts_c)), (h0_amounts, .inl (tA 0, h0_amounts_n, .inl h0_amounts_c))]) (wr := [(h0_tape, .inl (tA 2, h0_tape_n, .inl h0_tape_c))]) hP hD hS hA [0, 1, 2, 3] [4] rfl rfl (by decide) (by decide) (va_runV (As := [.int 3, .int l1, .int l2]) (rest := []) ⟨hx, hb, hml, hown, hg⟩ (m_Wo_add l D tA _ h0 h0_sorts h0_starts h0_amounts f_h0 h0_sorts_n h0_starts_n h0_amounts_n 3 l1 l2 h0_count h0_sorts_c h0_starts_c h0_amounts_c q_h0_sorts q_h0_starts q_h0_amounts q_h0_count o2 h2) (zV 3 hg k4_107 k4_109 ks_Wo_add k1_2 k4_110 rfl rfl (by decide +kernel) ⟨(Nat.le_of_ble_eq_true rfl), (Nat.le_of_ble_eq_true rfl)⟩) (zPreV hh hK hP hD [0, 1, 2, 3] (by decide) rfl (ci := 1) rfl 0 rfl) rfl rfl hl.1 rfl (lv_room (Nat.le_of_ble_eq_true rfl)) d_Wo_takeNumber_85 ⟨(Nat.le_of_ble_eq_true rfl), (Nat.le_of_ble_eq_true rfl)⟩) (fun v2_h0 H1 locs1 e2 hP1 hD1 hS1 => ?_)
      clear hP hD hS
      refine W.cs (cells' := 0) (slots' := 0) rfl rfl ?_
      obtain ⟨r2_h0, q2_h0_count⟩ := e2
      replace hP1 : va_P D vwCl [(h0_tape, .inl (tA 2, h0_tape_n, .inl h0_tape_c)), (h0, .inr (1, v2_h0)), (h0_sorts, .inl (tA 0, h0_sorts_n, .inl o2.2.1)), (h0_starts, .inl (tA 0, h0_starts_n, .inl o2.2.2.1)), (h0_amounts, .inl (tA 0, h0_amounts_n, .inl o2.2.2.2))] _ := hP1
      replace hD1 : va_D A [(h0_tape, .inl (tA 2, h0_tape_n, .inl h0_tape_c)), (h0, .inr (1, v2_h0)), (h0_sorts, .inl (tA 0, h0_sorts_n, .inl o2.2.1)), (h0_starts, .inl (tA 0, h0_starts_n, .inl o2.2.2.1)), (h0_amounts, .inl (tA 0, h0_amounts_n, .inl o2.2.2.2))] := hD1
      refine lv_iload hx hb d_Wo_takeNumber_88 (lv_at hl 0 rfl) ?_
      refine lv_if_eq (tgt := 97) hx hb d_Wo_takeNumber_90 (by decide) (fun c9 => absurd c9 (by decide)) (fun _ => ?_)
      refine lv_iload_n hx hb d_Wo_takeNumber_93 rfl (lv_at hl 4 rfl) ?_
      refine lv_goto (tgt := 101) hx hb d_Wo_takeNumber_94 (by decide) ?_
      replace hF := Option.some.inj hF
      subst hF
      exact zZret (post := (fun (r9 : Int32) (u9 : List Value) => r9 = (l3, o2.1, o2.2.1, o2.2.2.1, o2.2.2.2).1 ∧ Fr [2] f0_h0 u9 ∧ u9[2]? = some (.int ((l3, o2.1, o2.2.1, o2.2.2.1, o2.2.2.2).2.1)))) (W1 := (fun (u9 : List Value) => [(h0, .inr (1, u9)), (h0_sorts, .inl (tA 0, h0_sorts_n, .inl ((l3, o2.1, o2.2.1, o2.2.2.1, o2.2.2.2).2.2.1))), (h0_starts, .inl (tA 0, h0_starts_n, .inl ((l3, o2.1, o2.2.1, o2.2.2.1, o2.2.2.2).2.2.2.1))), (h0_amounts, .inl (tA 0, h0_amounts_n, .inl ((l3, o2.1, o2.2.1, o2.2.2.1, o2.2.2.2).2.2.2.2))), (h0_tape, .inl (tA 2, h0_tape_n, .inl h0_tape_c))])) (v := l3) hx hb hr rfl hlocks (zPc (wc := [(h0, .inr (1, v2_h0)), (h0_sorts, .inl (tA 0, h0_sorts_n, .inl o2.2.1)), (h0_starts, .inl (tA 0, h0_starts_n, .inl o2.2.2.1)), (h0_amounts, .inl (tA 0, h0_amounts_n, .inl o2.2.2.2)), (h0_tape, .inl (tA 2, h0_tape_n, .inl h0_tape_c))]) hP1 [1, 2, 3, 4, 0] rfl) (va_D.sub (ws' := [(h0, .inr (1, v2_h0)), (h0_sorts, .inl (tA 0, h0_sorts_n, .inl o2.2.1)), (h0_starts, .inl (tA 0, h0_starts_n, .inl o2.2.2.1)), (h0_amounts, .inl (tA 0, h0_amounts_n, .inl o2.2.2.2)), (h0_tape, .inl (tA 2, h0_tape_n, .inl h0_tape_c))]) hD1 [1, 2, 3, 4, 0] (by decide) rfl) hS1 (v2_h0) ⟨rfl, (Fr.trans r_h0 (Fr.sub r2_h0 (by decide))), q2_h0_count⟩ rfl d_Wo_takeNumber_101
  · replace hF := ifn c9 hF
    refine lv_aload_n hx hb d_Wo_takeNumber_12 rfl (lv_at hl 0 rfl) ?_
    refine va_get (D := D) (ci := 1) (v := .ref h0_tape) (C := R_Wo) (T := T_Wo) (N := 6) hx hb hg i_Wo hown hK hP 0 rfl rfl 0 (by decide) (hg _ k1_54) (fun _ h9 => h9) q_h0_tape d_Wo_takeNumber_13 ?_
    refine lv_iload_n hx hb d_Wo_takeNumber_16 rfl (lv_at hl 3 rfl) ?_
    obtain ⟨h9, hF⟩ := chk_some hF
    refine va_cald hx hb hK hP 4 2 rfl rfl (vp_in_iff.mpr h9) d_Wo_takeNumber_17 ?_
    obtain ⟨o3, h3, hF⟩ := bsome hF
    refine zCalli (wc := []) (wr := [(h0, .inr (1, f_h0)), (h0_sorts, .inl (tA 0, h0_sorts_n, .inl h0_sorts_c)), (h0_starts, .inl (tA 0, h0_starts_n, .inl h0_starts_c)), (h0_amounts, .inl (tA 0, h0_amounts_n, .inl h0_amounts_c)), (h0_tape, .inl (tA 2, h0_tape_n, .inl h0_tape_c))]) hP hD hS hA [] [0, 1, 2, 3, 4] rfl rfl (by decide) (by decide) (va_runS (As := [.int (h0_tape_c (l3 : Int32).toNatClampNeg)]) (rest := []) ⟨hx, hb, hml, hown, hg⟩ (m_Wo_isDigit l D tA _   (h0_tape_c (l3 : Int32).toNatClampNeg)  o3 h3) (zVS 1 hg k4_35 k4_36 k1_2 k4_37 rfl rfl (by decide +kernel) ⟨(Nat.le_of_ble_eq_true rfl), (Nat.le_of_ble_eq_true rfl)⟩) (zPreS hh hK hP hD [] (by decide) rfl) rfl rfl hl.1 rfl (lv_room (Nat.le_of_ble_eq_true rfl)) d_Wo_takeNumber_18 ⟨(Nat.le_of_ble_eq_true rfl), (Nat.le_of_ble_eq_true rfl)⟩) (fun r3 u3 H1 locs1 e3 hP1 hD1 hS1 => ?_)
    clear hP hD hS
    refine W.cs (cells' := 0) (slots' := 0) rfl rfl ?_
    have x3 := e3
    rw [x3]
    replace hP1 : va_P D vwCl [(h0, .inr (1, f_h0)), (h0_sorts, .inl (tA 0, h0_sorts_n, .inl h0_sorts_c)), (h0_starts, .inl (tA 0, h0_starts_n, .inl h0_starts_c)), (h0_amounts, .inl (tA 0, h0_amounts_n, .inl h0_amounts_c)), (h0_tape, .inl (tA 2, h0_tape_n, .inl h0_tape_c))] _ := hP1
    replace hD1 : va_D A [(h0, .inr (1, f_h0)), (h0_sorts, .inl (tA 0, h0_sorts_n, .inl h0_sorts_c)), (h0_starts, .inl (tA 0, h0_starts_n, .inl h0_starts_c)), (h0_amounts, .inl (tA 0, h0_amounts_n, .inl h0_amounts_c)), (h0_tape, .inl (tA 2, h0_tape_n, .inl h0_tape_c))] := hD1
    refine lv_if_eq (tgt := 57) hx hb d_Wo_takeNumber_21 (by decide) (fun c9 => ?_) (fun c9 => ?_)
    · replace hF := ifp c9 hF
      refine lv_iload_n hx hb d_Wo_takeNumber_57 rfl (lv_at hl 3 rfl) ?_
      refine lv_iload_n hx hb d_Wo_takeNumber_58 rfl (lv_at hl 1 rfl) ?_
      refine lv_isub hx hb d_Wo_takeNumber_59 ?_
      refine lv_bipush (v := 9) hx hb d_Wo_takeNumber_60 (by decide) ?_
      refine lv_icmp_gt (tgt := 69) hx hb d_Wo_takeNumber_62 (by decide) (fun c9 => ?_) (fun c9 => ?_)
      · replace hF := ifp c9 hF
        refine lv_iconst (v := 0) hx hb d_Wo_takeNumber_69 (by decide) ?_
        refine lv_istore (lv' := [(4, .int 0), (0, .ref h0), (1, .int l1), (2, .int l2), (3, .int l3)]) hx hb d_Wo_takeNumber_70 hl (by decide) rfl (fun ls hl => ?_)
        refine lv_aload_n hx hb d_Wo_takeNumber_72 rfl (lv_at hl 1 rfl) ?_
        refine lv_iload hx hb d_Wo_takeNumber_73 (lv_at hl 0 rfl) ?_
        refine lv_if_eq (tgt := 82) hx hb d_Wo_takeNumber_75 (by decide) (fun _ => ?_) (fun c9 => absurd (by decide) c9)
        refine lv_iconst (v := 1) hx hb d_Wo_takeNumber_82 (by decide) ?_
        refine lv_iload_n hx hb d_Wo_takeNumber_83 rfl (lv_at hl 2 rfl) ?_
        refine lv_iload_n hx hb d_Wo_takeNumber_84 rfl (lv_at hl 3 rfl) ?_
        obtain ⟨o4, h4, hF⟩ := bsome hF
        refine zCallv (wc := [(h0, .inr (1, f_h0)), (h0_sorts, .inl (tA 0, h0_sorts_n, .inl h0_sorts_c)), (h0_starts, .inl (tA 0, h0_starts_n, .inl h0_starts_c)), (h0_amounts, .inl (tA 0, h0_amounts_n, .inl h0_amounts_c))]) (wr := [(h0_tape, .inl (tA 2, h0_tape_n, .inl h0_tape_c))]) hP1 hD1 hS1 hA [0, 1, 2, 3] [4] rfl rfl (by decide) (by decide) (va_runV (As := [.int 1, .int l1, .int l2]) (rest := []) ⟨hx, hb, hml, hown, hg⟩ (m_Wo_add l D tA _ h0 h0_sorts h0_starts h0_amounts f_h0 h0_sorts_n h0_starts_n h0_amounts_n 1 l1 l2 h0_count h0_sorts_c h0_starts_c h0_amounts_c q_h0_sorts q_h0_starts q_h0_amounts q_h0_count o4 h4) (zV 3 hg k4_107 k4_109 ks_Wo_add k1_2 k4_110 rfl rfl (by decide +kernel) ⟨(Nat.le_of_ble_eq_true rfl), (Nat.le_of_ble_eq_true rfl)⟩) (zPreV hh hK hP1 hD1 [0, 1, 2, 3] (by decide) rfl (ci := 1) rfl 0 rfl) rfl rfl hl.1 rfl (lv_room (Nat.le_of_ble_eq_true rfl)) d_Wo_takeNumber_85 ⟨(Nat.le_of_ble_eq_true rfl), (Nat.le_of_ble_eq_true rfl)⟩) (fun v4_h0 H2 locs2 e4 hP2 hD2 hS2 => ?_)
        clear hP1 hD1 hS1
        refine W.cs (cells' := 0) (slots' := 0) rfl rfl ?_
        obtain ⟨r4_h0, q4_h0_count⟩ := e4
        replace hP2 : va_P D vwCl [(h0_tape, .inl (tA 2, h0_tape_n, .inl h0_tape_c)), (h0, .inr (1, v4_h0)), (h0_sorts, .inl (tA 0, h0_sorts_n, .inl o4.2.1)), (h0_starts, .inl (tA 0, h0_starts_n, .inl o4.2.2.1)), (h0_amounts, .inl (tA 0, h0_amounts_n, .inl o4.2.2.2))] _ := hP2
        replace hD2 : va_D A [(h0_tape, .inl (tA 2, h0_tape_n, .inl h0_tape_c)), (h0, .inr (1, v4_h0)), (h0_sorts, .inl (tA 0, h0_sorts_n, .inl o4.2.1)), (h0_starts, .inl (tA 0, h0_starts_n, .inl o4.2.2.1)), (h0_amounts, .inl (tA 0, h0_amounts_n, .inl o4.2.2.2))] := hD2
        refine lv_iload hx hb d_Wo_takeNumber_88 (lv_at hl 0 rfl) ?_
        refine lv_if_eq (tgt := 97) hx hb d_Wo_takeNumber_90 (by decide) (fun _ => ?_) (fun c9 => absurd (by decide) c9)
        refine lv_aload_n hx hb d_Wo_takeNumber_97 rfl (lv_at hl 1 rfl) ?_
        refine va_get (D := D) (ci := 1) (v := .int h0_length) (C := R_Wo) (T := T_Wo) (N := 6) hx hb hg i_Wo hown hK hP2 1 rfl rfl 1 (by decide) (hg _ k1_55) (fun _ h9 => h9) (Fr.get r4_h0 (by decide) q_h0_length) d_Wo_takeNumber_98 ?_
        replace hF := Option.some.inj hF
        subst hF
        exact zZret (post := (fun (r9 : Int32) (u9 : List Value) => r9 = (h0_length, o4.1, o4.2.1, o4.2.2.1, o4.2.2.2).1 ∧ Fr [2] f0_h0 u9 ∧ u9[2]? = some (.int ((h0_length, o4.1, o4.2.1, o4.2.2.1, o4.2.2.2).2.1)))) (W1 := (fun (u9 : List Value) => [(h0, .inr (1, u9)), (h0_sorts, .inl (tA 0, h0_sorts_n, .inl ((h0_length, o4.1, o4.2.1, o4.2.2.1, o4.2.2.2).2.2.1))), (h0_starts, .inl (tA 0, h0_starts_n, .inl ((h0_length, o4.1, o4.2.1, o4.2.2.1, o4.2.2.2).2.2.2.1))), (h0_amounts, .inl (tA 0, h0_amounts_n, .inl ((h0_length, o4.1, o4.2.1, o4.2.2.1, o4.2.2.2).2.2.2.2))), (h0_tape, .inl (tA 2, h0_tape_n, .inl h0_tape_c))])) (v := h0_length) hx hb hr rfl hlocks (zPc (wc := [(h0, .inr (1, v4_h0)), (h0_sorts, .inl (tA 0, h0_sorts_n, .inl o4.2.1)), (h0_starts, .inl (tA 0, h0_starts_n, .inl o4.2.2.1)), (h0_amounts, .inl (tA 0, h0_amounts_n, .inl o4.2.2.2)), (h0_tape, .inl (tA 2, h0_tape_n, .inl h0_tape_c))]) hP2 [1, 2, 3, 4, 0] rfl) (va_D.sub (ws' := [(h0, .inr (1, v4_h0)), (h0_sorts, .inl (tA 0, h0_sorts_n, .inl o4.2.1)), (h0_starts, .inl (tA 0, h0_starts_n, .inl o4.2.2.1)), (h0_amounts, .inl (tA 0, h0_amounts_n, .inl o4.2.2.2)), (h0_tape, .inl (tA 2, h0_tape_n, .inl h0_tape_c))]) hD2 [1, 2, 3, 4, 0] (by decide) rfl) hS2 (v4_h0) ⟨rfl, (Fr.trans r_h0 (Fr.sub r4_h0 (by decide))), q4_h0_count⟩ rfl d_Wo_takeNumber_101
      · replace hF := ifn c9 hF
        refine lv_iconst (v := 1) hx hb d_Wo_takeNumber_65 (by decide) ?_
        refine lv_goto (tgt := 70) hx hb d_Wo_takeNumber_66 (by decide) ?_
        refine lv_istore (lv' := [(4, .int 1), (0, .ref h0), (1, .int l1), (2, .int l2), (3, .int l3)]) hx hb d_Wo_takeNumber_70 hl (by decide) rfl (fun ls hl => ?_)
        refine lv_aload_n hx hb d_Wo_takeNumber_72 rfl (lv_at hl 1 rfl) ?_
        refine lv_iload hx hb d_Wo_takeNumber_73 (lv_at hl 0 rfl) ?_
        refine lv_if_eq (tgt := 82) hx hb d_Wo_takeNumber_75 (by decide) (fun c9 => absurd c9 (by decide)) (fun _ => ?_)
        refine lv_iconst (v := 3) hx hb d_Wo_takeNumber_78 (by decide) ?_
        refine lv_goto (tgt := 83) hx hb d_Wo_takeNumber_79 (by decide) ?_
        refine lv_iload_n hx hb d_Wo_takeNumber_83 rfl (lv_at hl 2 rfl) ?_
        refine lv_iload_n hx hb d_Wo_takeNumber_84 rfl (lv_at hl 3 rfl) ?_
        obtain ⟨o5, h5, hF⟩ := bsome hF
        refine zCallv (wc := [(h0, .inr (1, f_h0)), (h0_sorts, .inl (tA 0, h0_sorts_n, .inl h0_sorts_c)), (h0_starts, .inl (tA 0, h0_starts_n, .inl h0_starts_c)), (h0_amounts, .inl (tA 0, h0_amounts_n, .inl h0_amounts_c))]) (wr := [(h0_tape, .inl (tA 2, h0_tape_n, .inl h0_tape_c))]) hP1 hD1 hS1 hA [0, 1, 2, 3] [4] rfl rfl (by decide) (by decide) (va_runV (As := [.int 3, .int l1, .int l2]) (rest := []) ⟨hx, hb, hml, hown, hg⟩ (m_Wo_add l D tA _ h0 h0_sorts h0_starts h0_amounts f_h0 h0_sorts_n h0_starts_n h0_amounts_n 3 l1 l2 h0_count h0_sorts_c h0_starts_c h0_amounts_c q_h0_sorts q_h0_starts q_h0_amounts q_h0_count o5 h5) (zV 3 hg k4_107 k4_109 ks_Wo_add k1_2 k4_110 rfl rfl (by decide +kernel) ⟨(Nat.le_of_ble_eq_true rfl), (Nat.le_of_ble_eq_true rfl)⟩) (zPreV hh hK hP1 hD1 [0, 1, 2, 3] (by decide) rfl (ci := 1) rfl 0 rfl) rfl rfl hl.1 rfl (lv_room (Nat.le_of_ble_eq_true rfl)) d_Wo_takeNumber_85 ⟨(Nat.le_of_ble_eq_true rfl), (Nat.le_of_ble_eq_true rfl)⟩) (fun v5_h0 H2 locs2 e5 hP2 hD2 hS2 => ?_)
        clear hP1 hD1 hS1
        refine W.cs (cells' := 0) (slots' := 0) rfl rfl ?_
        obtain ⟨r5_h0, q5_h0_count⟩ := e5
        replace hP2 : va_P D vwCl [(h0_tape, .inl (tA 2, h0_tape_n, .inl h0_tape_c)), (h0, .inr (1, v5_h0)), (h0_sorts, .inl (tA 0, h0_sorts_n, .inl o5.2.1)), (h0_starts, .inl (tA 0, h0_starts_n, .inl o5.2.2.1)), (h0_amounts, .inl (tA 0, h0_amounts_n, .inl o5.2.2.2))] _ := hP2
        replace hD2 : va_D A [(h0_tape, .inl (tA 2, h0_tape_n, .inl h0_tape_c)), (h0, .inr (1, v5_h0)), (h0_sorts, .inl (tA 0, h0_sorts_n, .inl o5.2.1)), (h0_starts, .inl (tA 0, h0_starts_n, .inl o5.2.2.1)), (h0_amounts, .inl (tA 0, h0_amounts_n, .inl o5.2.2.2))] := hD2
        refine lv_iload hx hb d_Wo_takeNumber_88 (lv_at hl 0 rfl) ?_
        refine lv_if_eq (tgt := 97) hx hb d_Wo_takeNumber_90 (by decide) (fun c9 => absurd c9 (by decide)) (fun _ => ?_)
        refine lv_iload_n hx hb d_Wo_takeNumber_93 rfl (lv_at hl 4 rfl) ?_
        refine lv_goto (tgt := 101) hx hb d_Wo_takeNumber_94 (by decide) ?_
        replace hF := Option.some.inj hF
        subst hF
        exact zZret (post := (fun (r9 : Int32) (u9 : List Value) => r9 = (l3, o5.1, o5.2.1, o5.2.2.1, o5.2.2.2).1 ∧ Fr [2] f0_h0 u9 ∧ u9[2]? = some (.int ((l3, o5.1, o5.2.1, o5.2.2.1, o5.2.2.2).2.1)))) (W1 := (fun (u9 : List Value) => [(h0, .inr (1, u9)), (h0_sorts, .inl (tA 0, h0_sorts_n, .inl ((l3, o5.1, o5.2.1, o5.2.2.1, o5.2.2.2).2.2.1))), (h0_starts, .inl (tA 0, h0_starts_n, .inl ((l3, o5.1, o5.2.1, o5.2.2.1, o5.2.2.2).2.2.2.1))), (h0_amounts, .inl (tA 0, h0_amounts_n, .inl ((l3, o5.1, o5.2.1, o5.2.2.1, o5.2.2.2).2.2.2.2))), (h0_tape, .inl (tA 2, h0_tape_n, .inl h0_tape_c))])) (v := l3) hx hb hr rfl hlocks (zPc (wc := [(h0, .inr (1, v5_h0)), (h0_sorts, .inl (tA 0, h0_sorts_n, .inl o5.2.1)), (h0_starts, .inl (tA 0, h0_starts_n, .inl o5.2.2.1)), (h0_amounts, .inl (tA 0, h0_amounts_n, .inl o5.2.2.2)), (h0_tape, .inl (tA 2, h0_tape_n, .inl h0_tape_c))]) hP2 [1, 2, 3, 4, 0] rfl) (va_D.sub (ws' := [(h0, .inr (1, v5_h0)), (h0_sorts, .inl (tA 0, h0_sorts_n, .inl o5.2.1)), (h0_starts, .inl (tA 0, h0_starts_n, .inl o5.2.2.1)), (h0_amounts, .inl (tA 0, h0_amounts_n, .inl o5.2.2.2)), (h0_tape, .inl (tA 2, h0_tape_n, .inl h0_tape_c))]) hD2 [1, 2, 3, 4, 0] (by decide) rfl) hS2 (v5_h0) ⟨rfl, (Fr.trans r_h0 (Fr.sub r5_h0 (by decide))), q5_h0_count⟩ rfl d_Wo_takeNumber_101
    · replace hF := ifn c9 hF
      refine lv_iload_n hx hb d_Wo_takeNumber_24 rfl (lv_at hl 3 rfl) ?_
      refine lv_iload_n hx hb d_Wo_takeNumber_25 rfl (lv_at hl 1 rfl) ?_
      refine lv_isub hx hb d_Wo_takeNumber_26 ?_
      refine lv_bipush (v := 9) hx hb d_Wo_takeNumber_27 (by decide) ?_
      refine lv_icmp_ge (tgt := 49) hx hb d_Wo_takeNumber_29 (by decide) (fun c9 => ?_) (fun c9 => ?_)
      · replace hF := ifp c9 hF
        refine lv_iconst (v := 0) hx hb d_Wo_takeNumber_49 (by decide) ?_
        refine lv_istore_n (lv' := [(2, .int 0), (0, .ref h0), (1, .int l1), (3, .int l3)]) hx hb d_Wo_takeNumber_50 rfl hl (by decide) rfl (fun ls hl => ?_)
        refine lv_iinc (v := (l3 + Int32.ofInt 1)) (lv' := [(3, .int (l3 + Int32.ofInt 1)), (2, .int 0), (0, .ref h0), (1, .int l1)]) hx hb d_Wo_takeNumber_51 hl (k := 3) rfl rfl (by decide) rfl (fun ls hl => ?_)
        refine lv_goto (tgt := 4) hx hb d_Wo_takeNumber_54 (by decide) ?_
        exact ih1 h0_count h0_sorts_c h0_starts_c h0_amounts_c 0 (l3 + Int32.ofInt 1)  f_h0 _ _ _ hF q_h0_sorts q_h0_starts q_h0_amounts q_h0_tape q_h0_length q_h0_count r_h0 hP1 hD1 hS1 (lv_sub hl [2, 3, 1, 0] rfl)
      · replace hF := ifn c9 hF
        refine lv_bipush (v := 10) hx hb d_Wo_takeNumber_32 (by decide) ?_
        refine lv_iload_n hx hb d_Wo_takeNumber_34 rfl (lv_at hl 2 rfl) ?_
        refine lv_imul hx hb d_Wo_takeNumber_35 ?_
        refine lv_aload_n hx hb d_Wo_takeNumber_36 rfl (lv_at hl 0 rfl) ?_
        refine va_get (D := D) (ci := 1) (v := .ref h0_tape) (C := R_Wo) (T := T_Wo) (N := 6) hx hb hg i_Wo hown hK hP1 0 rfl rfl 0 (by decide) (hg _ k1_54) (fun _ h9 => h9) q_h0_tape d_Wo_takeNumber_37 ?_
        refine lv_iload_n hx hb d_Wo_takeNumber_40 rfl (lv_at hl 3 rfl) ?_
        obtain ⟨h9, hF⟩ := chk_some hF
        refine va_cald hx hb hK hP1 4 2 rfl rfl (vp_in_iff.mpr h9) d_Wo_takeNumber_41 ?_
        refine lv_bipush (v := 48) hx hb d_Wo_takeNumber_42 (by decide) ?_
        refine lv_isub hx hb d_Wo_takeNumber_44 ?_
        refine lv_iadd hx hb d_Wo_takeNumber_45 ?_
        refine lv_goto (tgt := 50) hx hb d_Wo_takeNumber_46 (by decide) ?_
        refine lv_istore_n (lv' := [(2, .int ((10 * l2) + ((h0_tape_c (l3 : Int32).toNatClampNeg) - 48))), (0, .ref h0), (1, .int l1), (3, .int l3)]) hx hb d_Wo_takeNumber_50 rfl hl (by decide) rfl (fun ls hl => ?_)
        refine lv_iinc (v := (l3 + Int32.ofInt 1)) (lv' := [(3, .int (l3 + Int32.ofInt 1)), (2, .int ((10 * l2) + ((h0_tape_c (l3 : Int32).toNatClampNeg) - 48))), (0, .ref h0), (1, .int l1)]) hx hb d_Wo_takeNumber_51 hl (k := 3) rfl rfl (by decide) rfl (fun ls hl => ?_)
        refine lv_goto (tgt := 4) hx hb d_Wo_takeNumber_54 (by decide) ?_
        exact ih1 h0_count h0_sorts_c h0_starts_c h0_amounts_c ((10 * l2) + ((h0_tape_c (l3 : Int32).toNatClampNeg) - 48)) (l3 + Int32.ofInt 1)  f_h0 _ _ _ hF q_h0_sorts q_h0_starts q_h0_amounts q_h0_tape q_h0_length q_h0_count r_h0 hP1 hD1 hS1 (lv_sub hl [2, 3, 1, 0] rfl)
set_option maxHeartbeats 4000000 in
set_option maxRecDepth 100000 in
theorem a_Wo_takeNumber {p : Program} {l : Launch} {e : Env} {s : State} {m : MethodId} {args : Array Value} {below : List Frame} {meth : Method} {c : Code} {D : va_G} {tA : Nat → ClassId} {A : Nat → Prop} {h0 h0_sorts h0_starts h0_amounts h0_tape : Nat} {f0_h0 : List Value} {h0_sorts_n : Nat} {h0_starts_n : Nat} {h0_amounts_n : Nat} {h0_tape_n : Nat} {l1 : Int32} {h0_length : Int32} {h0_tape_c : Nat → Int32} {out : Int32 × Int32 × (Nat → Int32) × (Nat → Int32) × (Nat → Int32)} (hx : p.tables.exec = Jvm.exec) (hb : c.code = prog_13_method_8_code) (hr : meth.sig.returnType = (Option.some Jvm.ClassFile.FieldType.int)) (hml : c.maxLocals = 5) (hh : zH s) (hg : ∀ w ∈ lw_R, w.before args s = true) (hown : s.vm.findClass "ChanceArena$Words" = some m.cls) (hlocks : meth.locks = false) (hK : va_K D vwCl (zT tA) s) (hA : ∀ q, s.heap.size ≤ q → A q) : ∀ n : Nat, (∀ (h0_count : Int32) (h0_sorts_c : Nat → Int32) (h0_starts_c : Nat → Int32) (h0_amounts_c : Nat → Int32) (l2 : Int32) (l3 : Int32) (f_h0 : List Value) (H : Heap) (locs : List Loc) (ls : Array Slot), f_Wo_takeNumber h0_sorts_n h0_starts_n h0_amounts_n h0_tape_n l1 h0_length h0_tape_c n 0 h0_count h0_sorts_c h0_starts_c h0_amounts_c l2 l3 = some out → f_h0[3]? = some (.ref h0_sorts) → f_h0[4]? = some (.ref h0_starts) → f_h0[5]? = some (.ref h0_amounts) → f_h0[0]? = some (.ref h0_tape) → f_h0[1]? = some (.int h0_length) → f_h0[2]? = some (.int h0_count) → Fr [2] f0_h0 f_h0 → va_P D vwCl [(h0, .inr (1, f_h0)), (h0_sorts, .inl (tA 0, h0_sorts_n, .inl h0_sorts_c)), (h0_starts, .inl (tA 0, h0_starts_n, .inl h0_starts_c)), (h0_amounts, .inl (tA 0, h0_amounts_n, .inl h0_amounts_c)), (h0_tape, .inl (tA 2, h0_tape_n, .inl h0_tape_c))] H → va_D A [(h0, .inr (1, f_h0)), (h0_sorts, .inl (tA 0, h0_sorts_n, .inl h0_sorts_c)), (h0_starts, .inl (tA 0, h0_starts_n, .inl h0_starts_c)), (h0_amounts, .inl (tA 0, h0_amounts_n, .inl h0_amounts_c)), (h0_tape, .inl (tA 2, h0_tape_n, .inl h0_tape_c))] → va_S A s.heap H locs → lv_has ls 5 [(0, .ref h0), (1, .int l1)] → W p l e { frames := 1, cells := 0, slots := 0, locals := 23 } s m args below meth c H locs 0 0 (MQ below (va_Qi (fun (r9 : Int32) (u9 : List Value) => r9 = out.1 ∧ Fr [2] f0_h0 u9 ∧ u9[2]? = some (.int out.2.1)) (zPost D A (fun (u9 : List Value) => [(h0, .inr (1, u9)), (h0_sorts, .inl (tA 0, h0_sorts_n, .inl out.2.2.1)), (h0_starts, .inl (tA 0, h0_starts_n, .inl out.2.2.2.1)), (h0_amounts, .inl (tA 0, h0_amounts_n, .inl out.2.2.2.2)), (h0_tape, .inl (tA 2, h0_tape_n, .inl h0_tape_c))])) A) args s 0 0 A) (F0 m 0 ls [])) ∧ (∀ (h0_count : Int32) (h0_sorts_c : Nat → Int32) (h0_starts_c : Nat → Int32) (h0_amounts_c : Nat → Int32) (l2 : Int32) (l3 : Int32) (f_h0 : List Value) (H : Heap) (locs : List Loc) (ls : Array Slot), f_Wo_takeNumber h0_sorts_n h0_starts_n h0_amounts_n h0_tape_n l1 h0_length h0_tape_c n 1 h0_count h0_sorts_c h0_starts_c h0_amounts_c l2 l3 = some out → f_h0[3]? = some (.ref h0_sorts) → f_h0[4]? = some (.ref h0_starts) → f_h0[5]? = some (.ref h0_amounts) → f_h0[0]? = some (.ref h0_tape) → f_h0[1]? = some (.int h0_length) → f_h0[2]? = some (.int h0_count) → Fr [2] f0_h0 f_h0 → va_P D vwCl [(h0, .inr (1, f_h0)), (h0_sorts, .inl (tA 0, h0_sorts_n, .inl h0_sorts_c)), (h0_starts, .inl (tA 0, h0_starts_n, .inl h0_starts_c)), (h0_amounts, .inl (tA 0, h0_amounts_n, .inl h0_amounts_c)), (h0_tape, .inl (tA 2, h0_tape_n, .inl h0_tape_c))] H → va_D A [(h0, .inr (1, f_h0)), (h0_sorts, .inl (tA 0, h0_sorts_n, .inl h0_sorts_c)), (h0_starts, .inl (tA 0, h0_starts_n, .inl h0_starts_c)), (h0_amounts, .inl (tA 0, h0_amounts_n, .inl h0_amounts_c)), (h0_tape, .inl (tA 2, h0_tape_n, .inl h0_tape_c))] → va_S A s.heap H locs → lv_has ls 5 [(0, .ref h0), (1, .int l1), (2, .int l2), (3, .int l3)] → W p l e { frames := 1, cells := 0, slots := 0, locals := 23 } s m args below meth c H locs 0 0 (MQ below (va_Qi (fun (r9 : Int32) (u9 : List Value) => r9 = out.1 ∧ Fr [2] f0_h0 u9 ∧ u9[2]? = some (.int out.2.1)) (zPost D A (fun (u9 : List Value) => [(h0, .inr (1, u9)), (h0_sorts, .inl (tA 0, h0_sorts_n, .inl out.2.2.1)), (h0_starts, .inl (tA 0, h0_starts_n, .inl out.2.2.2.1)), (h0_amounts, .inl (tA 0, h0_amounts_n, .inl out.2.2.2.2)), (h0_tape, .inl (tA 2, h0_tape_n, .inl h0_tape_c))])) A) args s 0 0 A) (F0 m 4 ls [])) := by
  intro n
  induction n with
  | zero => exact ⟨(fun _ _ _ _ _ _ _ _ _ _ hF => by rw [z_Wo_takeNumber] at hF; cases hF), (fun _ _ _ _ _ _ _ _ _ _ hF => by rw [z_Wo_takeNumber] at hF; cases hF)⟩
  | succ n ih =>
    obtain ⟨i0, i1⟩ := ih
    exact ⟨b_Wo_takeNumber_0 hx hb hr hml hh hg hown hlocks hK hA i1, b_Wo_takeNumber_1 hx hb hr hml hh hg hown hlocks hK hA i1⟩
set_option maxHeartbeats 4000000 in
set_option maxRecDepth 100000 in
theorem m_Wo_takeNumber (l : Launch) (D : va_G) (tA : Nat → ClassId) (sz : Nat) (h0 h0_sorts h0_starts h0_amounts h0_tape : Nat) (f0_h0 : List Value) (h0_sorts_n : Nat) (h0_starts_n : Nat) (h0_amounts_n : Nat) (h0_tape_n : Nat) (l1 : Int32) (h0_length : Int32) (h0_tape_c : Nat → Int32) (h0_count : Int32) (h0_sorts_c : Nat → Int32) (h0_starts_c : Nat → Int32) (h0_amounts_c : Nat → Int32) (q_h0_sorts : f0_h0[3]? = some (.ref h0_sorts)) (q_h0_starts : f0_h0[4]? = some (.ref h0_starts)) (q_h0_amounts : f0_h0[5]? = some (.ref h0_amounts)) (q_h0_tape : f0_h0[0]? = some (.ref h0_tape)) (q_h0_length : f0_h0[1]? = some (.int h0_length)) (q_h0_count : f0_h0[2]? = some (.int h0_count)) (n : Nat) (out : Int32 × Int32 × (Nat → Int32) × (Nat → Int32) × (Nat → Int32)) (hF : f_Wo_takeNumber h0_sorts_n h0_starts_n h0_amounts_n h0_tape_n l1 h0_length h0_tape_c n 0 h0_count h0_sorts_c h0_starts_c h0_amounts_c 0 0 = some out) : zMi l ({ cls := "ChanceArena$Words", name := "takeNumber", desc := "(I)I" } : Jvm.MethodName) (zW (Jvm.Cond.code ({ cls := "ChanceArena$Words", name := "takeNumber", desc := "(I)I" } : Jvm.MethodName) prog_13_method_8_code (5 : Nat) (Option.some Jvm.ClassFile.FieldType.int))) { frames := 1, cells := 0, slots := 0, locals := 23 } [.ref h0, .int l1] D tA [(h0, .inr (1, f0_h0)), (h0_sorts, .inl (tA 0, h0_sorts_n, .inl h0_sorts_c)), (h0_starts, .inl (tA 0, h0_starts_n, .inl h0_starts_c)), (h0_amounts, .inl (tA 0, h0_amounts_n, .inl h0_amounts_c)), (h0_tape, .inl (tA 2, h0_tape_n, .inl h0_tape_c))] sz (fun (r9 : Int32) (u9 : List Value) => r9 = out.1 ∧ Fr [2] f0_h0 u9 ∧ u9[2]? = some (.int out.2.1)) (fun (u9 : List Value) => [(h0, .inr (1, u9)), (h0_sorts, .inl (tA 0, h0_sorts_n, .inl out.2.2.1)), (h0_starts, .inl (tA 0, h0_starts_n, .inl out.2.2.2.1)), (h0_amounts, .inl (tA 0, h0_amounts_n, .inl out.2.2.2.2)), (h0_tape, .inl (tA 2, h0_tape_n, .inl h0_tape_c))]) 0 0 := by
  refine zOpen (l := l) (y := ({ cls := "ChanceArena$Words", name := "takeNumber", desc := "(I)I" } : Jvm.MethodName)) (ws := zW (Jvm.Cond.code ({ cls := "ChanceArena$Words", name := "takeNumber", desc := "(I)I" } : Jvm.MethodName) prog_13_method_8_code (5 : Nat) (Option.some Jvm.ClassFile.FieldType.int))) (rm := { frames := 1, cells := 0, slots := 0, locals := 23 }) (av := [.ref h0, .int l1]) (D := D) (tA := tA) (W0 := [(h0, .inr (1, f0_h0)), (h0_sorts, .inl (tA 0, h0_sorts_n, .inl h0_sorts_c)), (h0_starts, .inl (tA 0, h0_starts_n, .inl h0_starts_c)), (h0_amounts, .inl (tA 0, h0_amounts_n, .inl h0_amounts_c)), (h0_tape, .inl (tA 2, h0_tape_n, .inl h0_tape_c))]) (Wm := [(h0, .inr (1, f0_h0)), (h0_sorts, .inl (tA 0, h0_sorts_n, .inl h0_sorts_c)), (h0_starts, .inl (tA 0, h0_starts_n, .inl h0_starts_c)), (h0_amounts, .inl (tA 0, h0_amounts_n, .inl h0_amounts_c)), (h0_tape, .inl (tA 2, h0_tape_n, .inl h0_tape_c))]) (sz := sz) (mc := 0) (ms := 0) (fun A => va_Qi (fun (r9 : Int32) (u9 : List Value) => r9 = out.1 ∧ Fr [2] f0_h0 u9 ∧ u9[2]? = some (.int out.2.1)) (zPost D A (fun (u9 : List Value) => [(h0, .inr (1, u9)), (h0_sorts, .inl (tA 0, h0_sorts_n, .inl out.2.2.1)), (h0_starts, .inl (tA 0, h0_starts_n, .inl out.2.2.2.1)), (h0_amounts, .inl (tA 0, h0_amounts_n, .inl out.2.2.2.2)), (h0_tape, .inl (tA 2, h0_tape_n, .inl h0_tape_c))])) A) (lv := [(0, .ref h0), (1, .int l1)]) (by decide) rfl (Nat.le_of_ble_eq_true rfl) rfl ?_
  intro p e s m below meth c A ls hx hb hr hml hh hg hown hlocks hnm hK hA hP hD0 hAw hS hl
  have hD := zD hD0 hAw
  exact (a_Wo_takeNumber hx hb hr hml hh hg hown hlocks hK hA n).1 h0_count h0_sorts_c h0_starts_c h0_amounts_c 0 0  f0_h0 _ _ _ hF q_h0_sorts q_h0_starts q_h0_amounts q_h0_tape q_h0_length q_h0_count Fr.rfl hP hD hS hl
