theorem k1_30 : (Jvm.Cond.initialized "java/lang/Math") ∈ lw_R := zR (zk_1 _ (List.mem_of_getElem? (i := 30) (by decide +kernel))) rfl
theorem k2_148 : (Jvm.Cond.fieldLink "ChanceArena" (226 : Nat) "ChanceArena$Game" "told" "[I") ∈ lw_R := zR (zk_2 _ (List.mem_of_getElem? (i := 148) (by decide +kernel))) rfl
theorem k3_110 : (Jvm.Cond.fieldLink "ChanceArena" (229 : Nat) "ChanceArena$Solver" "choices" "[I") ∈ lw_R := zR (zk_3 _ (List.mem_of_getElem? (i := 110) (by decide +kernel))) rfl
theorem k4_208 : (Jvm.Cond.static ({ cls := "java/lang/Math", name := "max", desc := "(II)I" } : Jvm.MethodName)) ∈ lw_R := zR (zk_4 _ (List.mem_of_getElem? (i := 208) (by decide +kernel))) rfl
theorem k4_209 : (Jvm.Cond.code ({ cls := "java/lang/Math", name := "max", desc := "(II)I" } : Jvm.MethodName) prog_31_method_65_code (2 : Nat) (Option.some Jvm.ClassFile.FieldType.int)) ∈ lw_R := zR (zk_4 _ (List.mem_of_getElem? (i := 209) (by decide +kernel))) rfl
theorem k5_91 : (Jvm.Cond.code ({ cls := "java/lang/Long", name := "compare", desc := "(JJ)I" } : Jvm.MethodName) prog_30_method_42_code (4 : Nat) (Option.some Jvm.ClassFile.FieldType.int)) ∈ lw_R := zR (zk_5 _ (List.mem_of_getElem? (i := 91) (by decide +kernel))) rfl
theorem k7_221 : (Jvm.Cond.code ({ cls := "java/util/Arrays", name := "fill", desc := "([II)V" } : Jvm.MethodName) prog_39_method_103_code (4 : Nat) (Option.none : Option Jvm.ClassFile.FieldType)) ∈ lw_R := zR (zk_7 _ (List.mem_of_getElem? (i := 221) (by decide +kernel))) rfl
theorem k8_191 : (Jvm.Cond.methodLink "ChanceArena" (232 : Nat) ({ cls := "java/lang/Math", name := "max", desc := "(II)I" } : Jvm.MethodName)) ∈ lw_R := zR (zk_8 _ (List.mem_of_getElem? (i := 191) (by decide +kernel))) rfl
theorem k11_197 : (Jvm.Cond.methodLink "ChanceArenaModel" (373 : Nat) ({ cls := "ChanceArenaModel", name := "push", desc := "(JJ)V" } : Jvm.MethodName)) ∈ lw_R := zR (zk_11 _ (List.mem_of_getElem? (i := 197) (by decide +kernel))) rfl
theorem k11_199 : (Jvm.Cond.instanceMethod ({ cls := "ChanceArenaModel", name := "push", desc := "(JJ)V" } : Jvm.MethodName)) ∈ lw_R := zR (zk_11 _ (List.mem_of_getElem? (i := 199) (by decide +kernel))) rfl
theorem k11_204 : (Jvm.Cond.code ({ cls := "ChanceArenaModel", name := "pushTruth", desc := "(Z)V" } : Jvm.MethodName) prog_15_method_51_code (2 : Nat) (Option.none : Option Jvm.ClassFile.FieldType)) ∈ lw_R := zR (zk_11 _ (List.mem_of_getElem? (i := 204) (by decide +kernel))) rfl
theorem k11_228 : (Jvm.Cond.code ({ cls := "ChanceArenaModel", name := "pushFraction", desc := "(JJI)V" } : Jvm.MethodName) prog_15_method_53_code (12 : Nat) (Option.none : Option Jvm.ClassFile.FieldType)) ∈ lw_R := zR (zk_11 _ (List.mem_of_getElem? (i := 228) (by decide +kernel))) rfl
theorem k11_229 : (Jvm.Cond.methodLink "ChanceArenaModel" (377 : Nat) ({ cls := "ChanceArenaModel", name := "divisor", desc := "(JJ)J" } : Jvm.MethodName)) ∈ lw_R := zR (zk_11 _ (List.mem_of_getElem? (i := 229) (by decide +kernel))) rfl
theorem k11_230 : (Jvm.Cond.static ({ cls := "ChanceArenaModel", name := "divisor", desc := "(JJ)J" } : Jvm.MethodName)) ∈ lw_R := zR (zk_11 _ (List.mem_of_getElem? (i := 230) (by decide +kernel))) rfl
theorem k11_231 : (Jvm.Cond.code ({ cls := "ChanceArenaModel", name := "divisor", desc := "(JJ)J" } : Jvm.MethodName) prog_15_method_52_code (10 : Nat) (Option.some Jvm.ClassFile.FieldType.long)) ∈ lw_R := zR (zk_11 _ (List.mem_of_getElem? (i := 231) (by decide +kernel))) rfl
theorem k11_232 : (Jvm.Cond.constantLong "ChanceArenaModel" (381 : Nat) (1000000000 : Int64)) ∈ lw_R := zR (zk_11 _ (List.mem_of_getElem? (i := 232) (by decide +kernel))) rfl
theorem k11_233 : (Jvm.Cond.constantLong "ChanceArenaModel" (383 : Nat) (-1000000000 : Int64)) ∈ lw_R := zR (zk_11 _ (List.mem_of_getElem? (i := 233) (by decide +kernel))) rfl
theorem d_JL_compare_0 : decode prog_30_method_42_code 0 = .ok (.lload_n 0, 1) := by decide +kernel
theorem d_JL_compare_1 : decode prog_30_method_42_code 1 = .ok (.lload_n 2, 1) := by decide +kernel
theorem d_JL_compare_2 : decode prog_30_method_42_code 2 = .ok (.lcmp, 1) := by decide +kernel
theorem d_JL_compare_3 : decode prog_30_method_42_code 3 = .ok (.ifCond .ge 7, 3) := by decide +kernel
theorem d_JL_compare_10 : decode prog_30_method_42_code 10 = .ok (.lload_n 0, 1) := by decide +kernel
theorem d_JL_compare_11 : decode prog_30_method_42_code 11 = .ok (.lload_n 2, 1) := by decide +kernel
theorem d_JL_compare_12 : decode prog_30_method_42_code 12 = .ok (.lcmp, 1) := by decide +kernel
theorem d_JL_compare_13 : decode prog_30_method_42_code 13 = .ok (.ifCond .ne 7, 3) := by decide +kernel
theorem d_JL_compare_20 : decode prog_30_method_42_code 20 = .ok (.iconst 1, 1) := by decide +kernel
theorem d_JL_compare_21 : decode prog_30_method_42_code 21 = .ok (.ireturn, 1) := by decide +kernel
theorem d_JL_compare_16 : decode prog_30_method_42_code 16 = .ok (.iconst 0, 1) := by decide +kernel
theorem d_JL_compare_17 : decode prog_30_method_42_code 17 = .ok (.goto 4, 3) := by decide +kernel
theorem d_JL_compare_6 : decode prog_30_method_42_code 6 = .ok (.iconst (-1), 1) := by decide +kernel
theorem d_JL_compare_7 : decode prog_30_method_42_code 7 = .ok (.goto 14, 3) := by decide +kernel
theorem d_JA_fill0_0 : decode prog_39_method_103_code 0 = .ok (.iconst 0, 1) := by decide +kernel
theorem d_JA_fill0_1 : decode prog_39_method_103_code 1 = .ok (.istore_n 2, 1) := by decide +kernel
theorem d_JA_fill0_2 : decode prog_39_method_103_code 2 = .ok (.aload_n 0, 1) := by decide +kernel
theorem d_JA_fill0_3 : decode prog_39_method_103_code 3 = .ok (.arraylength, 1) := by decide +kernel
theorem d_JA_fill0_4 : decode prog_39_method_103_code 4 = .ok (.istore_n 3, 1) := by decide +kernel
theorem d_JA_fill0_5 : decode prog_39_method_103_code 5 = .ok (.iload_n 2, 1) := by decide +kernel
theorem d_JA_fill0_6 : decode prog_39_method_103_code 6 = .ok (.iload_n 3, 1) := by decide +kernel
theorem d_JA_fill0_7 : decode prog_39_method_103_code 7 = .ok (.if_icmp .ge 13, 3) := by decide +kernel
theorem d_JA_fill0_20 : decode prog_39_method_103_code 20 = .ok (.return_, 1) := by decide +kernel
theorem d_JA_fill0_10 : decode prog_39_method_103_code 10 = .ok (.aload_n 0, 1) := by decide +kernel
theorem d_JA_fill0_11 : decode prog_39_method_103_code 11 = .ok (.iload_n 2, 1) := by decide +kernel
theorem d_JA_fill0_12 : decode prog_39_method_103_code 12 = .ok (.iload_n 1, 1) := by decide +kernel
theorem d_JA_fill0_13 : decode prog_39_method_103_code 13 = .ok (.iastore, 1) := by decide +kernel
theorem d_JA_fill0_14 : decode prog_39_method_103_code 14 = .ok (.iinc 2 1, 3) := by decide +kernel
theorem d_JA_fill0_17 : decode prog_39_method_103_code 17 = .ok (.goto (-12), 3) := by decide +kernel
theorem d_CA_adopt_18 : decode prog_1_method_22_code 18 = .ok (.iconst 0, 1) := by decide +kernel
theorem d_CA_adopt_19 : decode prog_1_method_22_code 19 = .ok (.istore_n 1, 1) := by decide +kernel
theorem d_CA_adopt_20 : decode prog_1_method_22_code 20 = .ok (.iload_n 1, 1) := by decide +kernel
theorem d_CA_adopt_21 : decode prog_1_method_22_code 21 = .ok (.aload_n 0, 1) := by decide +kernel
theorem d_CA_adopt_22 : decode prog_1_method_22_code 22 = .ok (.getfield 54, 3) := by decide +kernel
theorem d_CA_adopt_25 : decode prog_1_method_22_code 25 = .ok (.getfield 160, 3) := by decide +kernel
theorem d_CA_adopt_28 : decode prog_1_method_22_code 28 = .ok (.if_icmp .ge 31, 3) := by decide +kernel
theorem d_CA_adopt_59 : decode prog_1_method_22_code 59 = .ok (.return_, 1) := by decide +kernel
theorem d_CA_adopt_31 : decode prog_1_method_22_code 31 = .ok (.aload_n 0, 1) := by decide +kernel
theorem d_CA_adopt_32 : decode prog_1_method_22_code 32 = .ok (.getfield 54, 3) := by decide +kernel
theorem d_CA_adopt_35 : decode prog_1_method_22_code 35 = .ok (.getfield 226, 3) := by decide +kernel
theorem d_CA_adopt_38 : decode prog_1_method_22_code 38 = .ok (.iload_n 1, 1) := by decide +kernel
theorem d_CA_adopt_39 : decode prog_1_method_22_code 39 = .ok (.aload_n 0, 1) := by decide +kernel
theorem d_CA_adopt_40 : decode prog_1_method_22_code 40 = .ok (.getfield 63, 3) := by decide +kernel
theorem d_CA_adopt_43 : decode prog_1_method_22_code 43 = .ok (.getfield 229, 3) := by decide +kernel
theorem d_CA_adopt_46 : decode prog_1_method_22_code 46 = .ok (.iload_n 1, 1) := by decide +kernel
theorem d_CA_adopt_47 : decode prog_1_method_22_code 47 = .ok (.iaload, 1) := by decide +kernel
theorem d_CA_adopt_48 : decode prog_1_method_22_code 48 = .ok (.iconst 0, 1) := by decide +kernel
theorem d_CA_adopt_49 : decode prog_1_method_22_code 49 = .ok (.invokestatic 232, 3) := by decide +kernel
theorem d_CA_adopt_52 : decode prog_1_method_22_code 52 = .ok (.iastore, 1) := by decide +kernel
theorem d_CA_adopt_53 : decode prog_1_method_22_code 53 = .ok (.iinc 1 1, 3) := by decide +kernel
theorem d_CA_adopt_56 : decode prog_1_method_22_code 56 = .ok (.goto (-36), 3) := by decide +kernel
theorem d_MM_pushTruth_0 : decode prog_15_method_51_code 0 = .ok (.aload_n 0, 1) := by decide +kernel
theorem d_MM_pushTruth_1 : decode prog_15_method_51_code 1 = .ok (.iload_n 1, 1) := by decide +kernel
theorem d_MM_pushTruth_2 : decode prog_15_method_51_code 2 = .ok (.ifCond .eq 7, 3) := by decide +kernel
theorem d_MM_pushTruth_9 : decode prog_15_method_51_code 9 = .ok (.lconst 0, 1) := by decide +kernel
theorem d_MM_pushTruth_10 : decode prog_15_method_51_code 10 = .ok (.lconst 0, 1) := by decide +kernel
theorem d_MM_pushTruth_11 : decode prog_15_method_51_code 11 = .ok (.invokevirtual 373, 3) := by decide +kernel
theorem ks_MM_push : Cond.selects "ChanceArenaModel" ({ cls := "ChanceArenaModel", name := "push", desc := "(JJ)V" } : Jvm.MethodName) ({ cls := "ChanceArenaModel", name := "push", desc := "(JJ)V" } : Jvm.MethodName) ∈ lw_R := zR (List.mem_append_left _ (List.mem_of_getElem? (i := 119) (by decide +kernel))) rfl
theorem d_MM_pushTruth_14 : decode prog_15_method_51_code 14 = .ok (.return_, 1) := by decide +kernel
theorem d_MM_pushTruth_5 : decode prog_15_method_51_code 5 = .ok (.lconst 1, 1) := by decide +kernel
theorem d_MM_pushTruth_6 : decode prog_15_method_51_code 6 = .ok (.goto 4, 3) := by decide +kernel
theorem d_MM_divisor_0 : decode prog_15_method_52_code 0 = .ok (.lload_n 0, 1) := by decide +kernel
theorem d_MM_divisor_1 : decode prog_15_method_52_code 1 = .ok (.lconst 0, 1) := by decide +kernel
theorem d_MM_divisor_2 : decode prog_15_method_52_code 2 = .ok (.lcmp, 1) := by decide +kernel
theorem d_MM_divisor_3 : decode prog_15_method_52_code 3 = .ok (.ifCond .ge 8, 3) := by decide +kernel
theorem d_MM_divisor_11 : decode prog_15_method_52_code 11 = .ok (.lload_n 0, 1) := by decide +kernel
theorem d_MM_divisor_12 : decode prog_15_method_52_code 12 = .ok (.lstore 4, 2) := by decide +kernel
theorem d_MM_divisor_14 : decode prog_15_method_52_code 14 = .ok (.lload_n 2, 1) := by decide +kernel
theorem d_MM_divisor_15 : decode prog_15_method_52_code 15 = .ok (.lstore 6, 2) := by decide +kernel
theorem d_MM_divisor_6 : decode prog_15_method_52_code 6 = .ok (.lload_n 0, 1) := by decide +kernel
theorem d_MM_divisor_7 : decode prog_15_method_52_code 7 = .ok (.lneg, 1) := by decide +kernel
theorem d_MM_divisor_8 : decode prog_15_method_52_code 8 = .ok (.goto 4, 3) := by decide +kernel
theorem d_MM_divisor_17 : decode prog_15_method_52_code 17 = .ok (.lload 6, 2) := by decide +kernel
theorem d_MM_divisor_19 : decode prog_15_method_52_code 19 = .ok (.lconst 0, 1) := by decide +kernel
theorem d_MM_divisor_20 : decode prog_15_method_52_code 20 = .ok (.lcmp, 1) := by decide +kernel
theorem d_MM_divisor_21 : decode prog_15_method_52_code 21 = .ok (.ifCond .le 21, 3) := by decide +kernel
theorem d_MM_divisor_42 : decode prog_15_method_52_code 42 = .ok (.lload 4, 2) := by decide +kernel
theorem d_MM_divisor_44 : decode prog_15_method_52_code 44 = .ok (.lreturn, 1) := by decide +kernel
theorem d_MM_divisor_24 : decode prog_15_method_52_code 24 = .ok (.lload 4, 2) := by decide +kernel
theorem d_MM_divisor_26 : decode prog_15_method_52_code 26 = .ok (.lload 6, 2) := by decide +kernel
theorem d_MM_divisor_28 : decode prog_15_method_52_code 28 = .ok (.lrem, 1) := by decide +kernel
theorem d_MM_divisor_29 : decode prog_15_method_52_code 29 = .ok (.lstore 8, 2) := by decide +kernel
theorem d_MM_divisor_31 : decode prog_15_method_52_code 31 = .ok (.lload 6, 2) := by decide +kernel
theorem d_MM_divisor_33 : decode prog_15_method_52_code 33 = .ok (.lstore 4, 2) := by decide +kernel
theorem d_MM_divisor_35 : decode prog_15_method_52_code 35 = .ok (.lload 8, 2) := by decide +kernel
theorem d_MM_divisor_37 : decode prog_15_method_52_code 37 = .ok (.lstore 6, 2) := by decide +kernel
theorem d_MM_divisor_39 : decode prog_15_method_52_code 39 = .ok (.goto (-22), 3) := by decide +kernel
theorem d_MM_pushFraction_0 : decode prog_15_method_53_code 0 = .ok (.lload_n 1, 1) := by decide +kernel
theorem d_MM_pushFraction_1 : decode prog_15_method_53_code 1 = .ok (.lload_n 3, 1) := by decide +kernel
theorem d_MM_pushFraction_2 : decode prog_15_method_53_code 2 = .ok (.invokestatic 377, 3) := by decide +kernel
theorem d_MM_pushFraction_5 : decode prog_15_method_53_code 5 = .ok (.lstore 6, 2) := by decide +kernel
theorem d_MM_pushFraction_7 : decode prog_15_method_53_code 7 = .ok (.lload_n 1, 1) := by decide +kernel
theorem d_MM_pushFraction_8 : decode prog_15_method_53_code 8 = .ok (.lload 6, 2) := by decide +kernel
theorem d_MM_pushFraction_10 : decode prog_15_method_53_code 10 = .ok (.ldiv, 1) := by decide +kernel
theorem d_MM_pushFraction_11 : decode prog_15_method_53_code 11 = .ok (.lstore 8, 2) := by decide +kernel
theorem d_MM_pushFraction_13 : decode prog_15_method_53_code 13 = .ok (.lload_n 3, 1) := by decide +kernel
theorem d_MM_pushFraction_14 : decode prog_15_method_53_code 14 = .ok (.lload 6, 2) := by decide +kernel
theorem d_MM_pushFraction_16 : decode prog_15_method_53_code 16 = .ok (.ldiv, 1) := by decide +kernel
theorem d_MM_pushFraction_17 : decode prog_15_method_53_code 17 = .ok (.lstore 10, 2) := by decide +kernel
theorem d_MM_pushFraction_19 : decode prog_15_method_53_code 19 = .ok (.lload 8, 2) := by decide +kernel
theorem d_MM_pushFraction_21 : decode prog_15_method_53_code 21 = .ok (.ldc2_w 381, 3) := by decide +kernel
theorem d_MM_pushFraction_24 : decode prog_15_method_53_code 24 = .ok (.lcmp, 1) := by decide +kernel
theorem d_MM_pushFraction_25 : decode prog_15_method_53_code 25 = .ok (.ifCond .ge 21, 3) := by decide +kernel
theorem d_MM_pushFraction_46 : decode prog_15_method_53_code 46 = .ok (.aload_n 0, 1) := by decide +kernel
theorem d_MM_pushFraction_47 : decode prog_15_method_53_code 47 = .ok (.bipush 6, 2) := by decide +kernel
theorem d_MM_pushFraction_49 : decode prog_15_method_53_code 49 = .ok (.iload 5, 2) := by decide +kernel
theorem d_MM_pushFraction_51 : decode prog_15_method_53_code 51 = .ok (.invokevirtual 351, 3) := by decide +kernel
theorem d_MM_pushFraction_54 : decode prog_15_method_53_code 54 = .ok (.aload_n 0, 1) := by decide +kernel
theorem d_MM_pushFraction_55 : decode prog_15_method_53_code 55 = .ok (.lload 8, 2) := by decide +kernel
theorem d_MM_pushFraction_57 : decode prog_15_method_53_code 57 = .ok (.lload 10, 2) := by decide +kernel
theorem d_MM_pushFraction_59 : decode prog_15_method_53_code 59 = .ok (.invokevirtual 373, 3) := by decide +kernel
theorem d_MM_pushFraction_62 : decode prog_15_method_53_code 62 = .ok (.return_, 1) := by decide +kernel
theorem d_MM_pushFraction_28 : decode prog_15_method_53_code 28 = .ok (.lload 8, 2) := by decide +kernel
theorem d_MM_pushFraction_30 : decode prog_15_method_53_code 30 = .ok (.ldc2_w 383, 3) := by decide +kernel
theorem d_MM_pushFraction_33 : decode prog_15_method_53_code 33 = .ok (.lcmp, 1) := by decide +kernel
theorem d_MM_pushFraction_34 : decode prog_15_method_53_code 34 = .ok (.ifCond .le 12, 3) := by decide +kernel
theorem d_MM_pushFraction_37 : decode prog_15_method_53_code 37 = .ok (.lload 10, 2) := by decide +kernel
theorem d_MM_pushFraction_39 : decode prog_15_method_53_code 39 = .ok (.ldc2_w 381, 3) := by decide +kernel
theorem d_MM_pushFraction_42 : decode prog_15_method_53_code 42 = .ok (.lcmp, 1) := by decide +kernel
theorem d_MM_pushFraction_43 : decode prog_15_method_53_code 43 = .ok (.ifCond .lt 11, 3) := by decide +kernel
def f_JL_compare (L0 : Int64) (L2 : Int64) : Option (Int32) := if (0 : Int32) ≤ (lg_cmp L0 L2) then (if ¬ ((lg_cmp L0 L2) : Int32) = 0 then some (1) else some (0)) else some ((-1))
set_option maxHeartbeats 4000000 in
set_option maxRecDepth 100000 in
theorem b_JL_compare_0 {p : Program} {l : Launch} {e : Env} {s : State} {m : MethodId} {args : Array Value} {below : List Frame} {meth : Method} {c : Code} {D : va_G} {tA : Nat → ClassId} {A : Nat → Prop} {L0 : Int64} {L2 : Int64} {out : Int32} (hx : p.tables.exec = Jvm.exec) (hb : c.code = prog_30_method_42_code) (hr : meth.sig.returnType = (Option.some Jvm.ClassFile.FieldType.int)) (hml : c.maxLocals = 4) (hh : zH s) (hg : ∀ w ∈ lw_R, w.before args s = true) (hown : s.vm.findClass "java/lang/Long" = some m.cls) (hlocks : meth.locks = false) (hK : va_K D vwCl (zT tA) s) (hA : ∀ q, s.heap.size ≤ q → A q)  : ∀ (H : Heap) (locs : List Loc) (ls : Array Slot), f_JL_compare L0 L2 = some out → va_P D vwCl [] H → va_D A [] → va_S A s.heap H locs → lv_has ls 4 [(0, .long L0), (2, .long L2)] → W p l e { frames := 0, cells := 0, slots := 0, locals := 0 } s m args below meth c H locs 0 0 (MQ below (va_Qi (fun (r9 : Int32) (u9 : Unit) => r9 = out) (zPost D A (fun (u9 : Unit) => [])) A) args s 0 0 A) (F0 m 0 ls []) := by
  intro    H locs ls hF  hP hD hS hl
  replace hF : ((if (0 : Int32) ≤ (lg_cmp L0 L2) then (if ¬ ((lg_cmp L0 L2) : Int32) = 0 then some (1) else some (0)) else some ((-1))) : Option (Int32)) = some out := hF
  refine lv_lload_n hx hb d_JL_compare_0 rfl (lv_at hl 0 rfl) ?_
  refine lv_lload_n hx hb d_JL_compare_1 rfl (lv_at hl 1 rfl) ?_
  refine W.lcmp hx hb d_JL_compare_2 ?_
  refine lv_if_ge (tgt := 10) hx hb d_JL_compare_3 (by decide) (fun c9 => ?_) (fun c9 => ?_)
  · replace hF := ifp c9 hF
    refine lv_lload_n hx hb d_JL_compare_10 rfl (lv_at hl 0 rfl) ?_
    refine lv_lload_n hx hb d_JL_compare_11 rfl (lv_at hl 1 rfl) ?_
    refine W.lcmp hx hb d_JL_compare_12 ?_
    refine lv_if_ne (tgt := 20) hx hb d_JL_compare_13 (by decide) (fun c9 => ?_) (fun c9 => ?_)
    · replace hF := ifp c9 hF
      refine lv_iconst (v := 1) hx hb d_JL_compare_20 (by decide) ?_
      replace hF := Option.some.inj hF
      subst hF
      exact zZret (post := (fun (r9 : Int32) (u9 : Unit) => r9 = 1)) (W1 := (fun (u9 : Unit) => [])) (v := 1) hx hb hr rfl hlocks hP hD hS () rfl rfl d_JL_compare_21
    · replace hF := ifn (fun h9 => h9 c9) hF
      refine lv_iconst (v := 0) hx hb d_JL_compare_16 (by decide) ?_
      refine lv_goto (tgt := 21) hx hb d_JL_compare_17 (by decide) ?_
      replace hF := Option.some.inj hF
      subst hF
      exact zZret (post := (fun (r9 : Int32) (u9 : Unit) => r9 = 0)) (W1 := (fun (u9 : Unit) => [])) (v := 0) hx hb hr rfl hlocks hP hD hS () rfl rfl d_JL_compare_21
  · replace hF := ifn c9 hF
    refine lv_iconst (v := (-1)) hx hb d_JL_compare_6 (by decide) ?_
    refine lv_goto (tgt := 21) hx hb d_JL_compare_7 (by decide) ?_
    replace hF := Option.some.inj hF
    subst hF
    exact zZret (post := (fun (r9 : Int32) (u9 : Unit) => r9 = (-1))) (W1 := (fun (u9 : Unit) => [])) (v := (-1)) hx hb hr rfl hlocks hP hD hS () rfl rfl d_JL_compare_21
set_option maxHeartbeats 4000000 in
set_option maxRecDepth 100000 in
theorem m_JL_compare (l : Launch) (D : va_G) (tA : Nat → ClassId) (sz : Nat) (L0 : Int64) (L2 : Int64) (out : Int32) (hF : f_JL_compare L0 L2 = some out) : zMi l ({ cls := "java/lang/Long", name := "compare", desc := "(JJ)I" } : Jvm.MethodName) (zW (Jvm.Cond.code ({ cls := "java/lang/Long", name := "compare", desc := "(JJ)I" } : Jvm.MethodName) prog_30_method_42_code (4 : Nat) (Option.some Jvm.ClassFile.FieldType.int))) { frames := 0, cells := 0, slots := 0, locals := 0 } [.long L0, .long L2] D tA [] sz (fun (r9 : Int32) (u9 : Unit) => r9 = out) (fun (u9 : Unit) => []) 0 0 := by
  refine zOpen (l := l) (y := ({ cls := "java/lang/Long", name := "compare", desc := "(JJ)I" } : Jvm.MethodName)) (ws := zW (Jvm.Cond.code ({ cls := "java/lang/Long", name := "compare", desc := "(JJ)I" } : Jvm.MethodName) prog_30_method_42_code (4 : Nat) (Option.some Jvm.ClassFile.FieldType.int))) (rm := { frames := 0, cells := 0, slots := 0, locals := 0 }) (av := [.long L0, .long L2]) (D := D) (tA := tA) (W0 := []) (Wm := []) (sz := sz) (mc := 0) (ms := 0) (fun A => va_Qi (fun (r9 : Int32) (u9 : Unit) => r9 = out) (zPost D A (fun (u9 : Unit) => [])) A) (lv := [(0, .long L0), (2, .long L2)]) (by decide) rfl (Nat.le_of_ble_eq_true rfl) rfl ?_
  intro p e s m below meth c A ls hx hb hr hml hh hg hown hlocks hnm hK hA hP hD0 hAw hS hl
  have hD := zD hD0 hAw
  exact b_JL_compare_0 hx hb hr hml hh hg hown hlocks hK hA    _ _ _ hF  hP hD hS hl
def f_JA_fill0 (p0_n : Nat) (l1 : Int32) : Nat → Nat → (Nat → Int32) → Int32 → Int32 → Option ((Nat → Int32))
  | 0, _, _, _, _ => none
  | n + 1, 0, p0_c, l2, l3 => chk True (f_JA_fill0 p0_n l1 n 1 p0_c 0 (Int32.ofNat p0_n))
  | n + 1, 1, p0_c, l2, l3 => if (l3 : Int32) ≤ l2 then some (p0_c) else chk (0 ≤ (l2 : Int32).toInt ∧ (l2 : Int32).toInt < p0_n) (f_JA_fill0 p0_n l1 n 1 (upd p0_c (l2 : Int32).toNatClampNeg l1) (l2 + Int32.ofInt 1) l3)
  | _ + 1, _ + 2, _, _, _ => none
theorem e_JA_fill0_0 (p0_n : Nat) (l1 : Int32) (n : Nat) (p0_c : Nat → Int32) (l2 : Int32) (l3 : Int32) : f_JA_fill0 p0_n l1 (n + 1) 0 p0_c l2 l3 = chk True (f_JA_fill0 p0_n l1 n 1 p0_c 0 (Int32.ofNat p0_n)) := by rw [f_JA_fill0]
theorem e_JA_fill0_1 (p0_n : Nat) (l1 : Int32) (n : Nat) (p0_c : Nat → Int32) (l2 : Int32) (l3 : Int32) : f_JA_fill0 p0_n l1 (n + 1) 1 p0_c l2 l3 = if (l3 : Int32) ≤ l2 then some (p0_c) else chk (0 ≤ (l2 : Int32).toInt ∧ (l2 : Int32).toInt < p0_n) (f_JA_fill0 p0_n l1 n 1 (upd p0_c (l2 : Int32).toNatClampNeg l1) (l2 + Int32.ofInt 1) l3) := by rw [f_JA_fill0]
theorem z_JA_fill0 (p0_n : Nat) (l1 : Int32) (h : Nat) (p0_c : Nat → Int32) (l2 : Int32) (l3 : Int32) : f_JA_fill0 p0_n l1 0 h p0_c l2 l3 = none := by rw [f_JA_fill0]
set_option maxHeartbeats 4000000 in
set_option maxRecDepth 100000 in
theorem b_JA_fill0_0 {p : Program} {l : Launch} {e : Env} {s : State} {m : MethodId} {args : Array Value} {below : List Frame} {meth : Method} {c : Code} {D : va_G} {tA : Nat → ClassId} {A : Nat → Prop} {p0 : Nat} {p0_n : Nat} {l1 : Int32} {out : (Nat → Int32)} (hx : p.tables.exec = Jvm.exec) (hb : c.code = prog_39_method_103_code) (hr : meth.sig.returnType = (Option.none : Option Jvm.ClassFile.FieldType)) (hml : c.maxLocals = 4) (hh : zH s) (hg : ∀ w ∈ lw_R, w.before args s = true) (hown : s.vm.findClass "java/util/Arrays" = some m.cls) (hlocks : meth.locks = false) (hK : va_K D vwCl (zT tA) s) (hA : ∀ q, s.heap.size ≤ q → A q) {n : Nat} (ih1 : ∀ (p0_c : Nat → Int32) (l2 : Int32) (l3 : Int32) (H : Heap) (locs : List Loc) (ls : Array Slot), f_JA_fill0 p0_n l1 n 1 p0_c l2 l3 = some out → va_P D vwCl [(p0, .inl (tA 0, p0_n, .inl p0_c))] H → va_D A [(p0, .inl (tA 0, p0_n, .inl p0_c))] → va_S A s.heap H locs → lv_has ls 4 [(0, .ref p0), (1, .int l1), (2, .int l2), (3, .int l3)] → W p l e { frames := 0, cells := 0, slots := 0, locals := 0 } s m args below meth c H locs 0 0 (MQ below (va_Qv (fun (u9 : Unit) => True) (zPost D A (fun (u9 : Unit) => [(p0, .inl (tA 0, p0_n, .inl out))])) A) args s 0 0 A) (F0 m 5 ls [])) : ∀ (p0_c : Nat → Int32) (l2 : Int32) (l3 : Int32) (H : Heap) (locs : List Loc) (ls : Array Slot), f_JA_fill0 p0_n l1 (n + 1) 0 p0_c l2 l3 = some out → va_P D vwCl [(p0, .inl (tA 0, p0_n, .inl p0_c))] H → va_D A [(p0, .inl (tA 0, p0_n, .inl p0_c))] → va_S A s.heap H locs → lv_has ls 4 [(0, .ref p0), (1, .int l1)] → W p l e { frames := 0, cells := 0, slots := 0, locals := 0 } s m args below meth c H locs 0 0 (MQ below (va_Qv (fun (u9 : Unit) => True) (zPost D A (fun (u9 : Unit) => [(p0, .inl (tA 0, p0_n, .inl out))])) A) args s 0 0 A) (F0 m 0 ls []) := by
  intro p0_c l2 l3   H locs ls hF  hP hD hS hl
  rw [e_JA_fill0_0] at hF
  obtain ⟨_, hF⟩ := chk_some hF
  refine lv_iconst (v := 0) hx hb d_JA_fill0_0 (by decide) ?_
  refine lv_istore_n (lv' := [(2, .int 0), (0, .ref p0), (1, .int l1)]) hx hb d_JA_fill0_1 rfl hl (by decide) rfl (fun ls hl => ?_)
  refine lv_aload_n hx hb d_JA_fill0_2 rfl (lv_at hl 1 rfl) ?_
  refine va_alen (v := (Int32.ofNat p0_n)) hx hb hK hP 0 0 rfl rfl rfl d_JA_fill0_3 ?_
  refine lv_istore_n (lv' := [(3, .int (Int32.ofNat p0_n)), (2, .int 0), (0, .ref p0), (1, .int l1)]) hx hb d_JA_fill0_4 rfl hl (by decide) rfl (fun ls hl => ?_)
  exact ih1 p0_c 0 (Int32.ofNat p0_n)   _ _ _ hF  hP hD hS (lv_sub hl [2, 3, 1, 0] rfl)
set_option maxHeartbeats 4000000 in
set_option maxRecDepth 100000 in
theorem b_JA_fill0_1 {p : Program} {l : Launch} {e : Env} {s : State} {m : MethodId} {args : Array Value} {below : List Frame} {meth : Method} {c : Code} {D : va_G} {tA : Nat → ClassId} {A : Nat → Prop} {p0 : Nat} {p0_n : Nat} {l1 : Int32} {out : (Nat → Int32)} (hx : p.tables.exec = Jvm.exec) (hb : c.code = prog_39_method_103_code) (hr : meth.sig.returnType = (Option.none : Option Jvm.ClassFile.FieldType)) (hml : c.maxLocals = 4) (hh : zH s) (hg : ∀ w ∈ lw_R, w.before args s = true) (hown : s.vm.findClass "java/util/Arrays" = some m.cls) (hlocks : meth.locks = false) (hK : va_K D vwCl (zT tA) s) (hA : ∀ q, s.heap.size ≤ q → A q) {n : Nat} (ih1 : ∀ (p0_c : Nat → Int32) (l2 : Int32) (l3 : Int32) (H : Heap) (locs : List Loc) (ls : Array Slot), f_JA_fill0 p0_n l1 n 1 p0_c l2 l3 = some out → va_P D vwCl [(p0, .inl (tA 0, p0_n, .inl p0_c))] H → va_D A [(p0, .inl (tA 0, p0_n, .inl p0_c))] → va_S A s.heap H locs → lv_has ls 4 [(0, .ref p0), (1, .int l1), (2, .int l2), (3, .int l3)] → W p l e { frames := 0, cells := 0, slots := 0, locals := 0 } s m args below meth c H locs 0 0 (MQ below (va_Qv (fun (u9 : Unit) => True) (zPost D A (fun (u9 : Unit) => [(p0, .inl (tA 0, p0_n, .inl out))])) A) args s 0 0 A) (F0 m 5 ls [])) : ∀ (p0_c : Nat → Int32) (l2 : Int32) (l3 : Int32) (H : Heap) (locs : List Loc) (ls : Array Slot), f_JA_fill0 p0_n l1 (n + 1) 1 p0_c l2 l3 = some out → va_P D vwCl [(p0, .inl (tA 0, p0_n, .inl p0_c))] H → va_D A [(p0, .inl (tA 0, p0_n, .inl p0_c))] → va_S A s.heap H locs → lv_has ls 4 [(0, .ref p0), (1, .int l1), (2, .int l2), (3, .int l3)] → W p l e { frames := 0, cells := 0, slots := 0, locals := 0 } s m args below meth c H locs 0 0 (MQ below (va_Qv (fun (u9 : Unit) => True) (zPost D A (fun (u9 : Unit) => [(p0, .inl (tA 0, p0_n, .inl out))])) A) args s 0 0 A) (F0 m 5 ls []) := by
  intro p0_c l2 l3   H locs ls hF  hP hD hS hl
  rw [e_JA_fill0_1] at hF
  refine lv_iload_n hx hb d_JA_fill0_5 rfl (lv_at hl 2 rfl) ?_
  refine lv_iload_n hx hb d_JA_fill0_6 rfl (lv_at hl 3 rfl) ?_
  refine lv_icmp_ge (tgt := 20) hx hb d_JA_fill0_7 (by decide) (fun c9 => ?_) (fun c9 => ?_)
  · replace hF := ifp c9 hF
    replace hF := Option.some.inj hF
    subst hF
    exact zVret (post := (fun (u9 : Unit) => True)) (W1 := (fun (u9 : Unit) => [(p0, .inl (tA 0, p0_n, .inl (p0_c)))])) hx hb hr hlocks hP hD hS () trivial rfl d_JA_fill0_20
  · replace hF := ifn c9 hF
    refine lv_aload_n hx hb d_JA_fill0_10 rfl (lv_at hl 0 rfl) ?_
    refine lv_iload_n hx hb d_JA_fill0_11 rfl (lv_at hl 2 rfl) ?_
    refine lv_iload_n hx hb d_JA_fill0_12 rfl (lv_at hl 1 rfl) ?_
    obtain ⟨h9, hF⟩ := chk_some hF
    refine va_iast hx hb hK hP hD hS 0 0 rfl rfl (vp_in_iff.mpr h9) d_JA_fill0_13 (fun H1 locs1 hP1 hD1 hS1 => ?_)
    clear hP hD hS
    replace hP1 : va_P D vwCl [(p0, .inl (tA 0, p0_n, .inl (upd p0_c (l2 : Int32).toNatClampNeg l1)))] _ := hP1
    replace hD1 : va_D A [(p0, .inl (tA 0, p0_n, .inl (upd p0_c (l2 : Int32).toNatClampNeg l1)))] := hD1
    refine lv_iinc (v := (l2 + Int32.ofInt 1)) (lv' := [(2, .int (l2 + Int32.ofInt 1)), (0, .ref p0), (1, .int l1), (3, .int l3)]) hx hb d_JA_fill0_14 hl (k := 2) rfl rfl (by decide) rfl (fun ls hl => ?_)
    refine lv_goto (tgt := 5) hx hb d_JA_fill0_17 (by decide) ?_
    exact ih1 (upd p0_c (l2 : Int32).toNatClampNeg l1) (l2 + Int32.ofInt 1) l3   _ _ _ hF  hP1 hD1 hS1 (lv_sub hl [1, 2, 0, 3] rfl)
set_option maxHeartbeats 4000000 in
set_option maxRecDepth 100000 in
theorem a_JA_fill0 {p : Program} {l : Launch} {e : Env} {s : State} {m : MethodId} {args : Array Value} {below : List Frame} {meth : Method} {c : Code} {D : va_G} {tA : Nat → ClassId} {A : Nat → Prop} {p0 : Nat} {p0_n : Nat} {l1 : Int32} {out : (Nat → Int32)} (hx : p.tables.exec = Jvm.exec) (hb : c.code = prog_39_method_103_code) (hr : meth.sig.returnType = (Option.none : Option Jvm.ClassFile.FieldType)) (hml : c.maxLocals = 4) (hh : zH s) (hg : ∀ w ∈ lw_R, w.before args s = true) (hown : s.vm.findClass "java/util/Arrays" = some m.cls) (hlocks : meth.locks = false) (hK : va_K D vwCl (zT tA) s) (hA : ∀ q, s.heap.size ≤ q → A q) : ∀ n : Nat, (∀ (p0_c : Nat → Int32) (l2 : Int32) (l3 : Int32) (H : Heap) (locs : List Loc) (ls : Array Slot), f_JA_fill0 p0_n l1 n 0 p0_c l2 l3 = some out → va_P D vwCl [(p0, .inl (tA 0, p0_n, .inl p0_c))] H → va_D A [(p0, .inl (tA 0, p0_n, .inl p0_c))] → va_S A s.heap H locs → lv_has ls 4 [(0, .ref p0), (1, .int l1)] → W p l e { frames := 0, cells := 0, slots := 0, locals := 0 } s m args below meth c H locs 0 0 (MQ below (va_Qv (fun (u9 : Unit) => True) (zPost D A (fun (u9 : Unit) => [(p0, .inl (tA 0, p0_n, .inl out))])) A) args s 0 0 A) (F0 m 0 ls [])) ∧ (∀ (p0_c : Nat → Int32) (l2 : Int32) (l3 : Int32) (H : Heap) (locs : List Loc) (ls : Array Slot), f_JA_fill0 p0_n l1 n 1 p0_c l2 l3 = some out → va_P D vwCl [(p0, .inl (tA 0, p0_n, .inl p0_c))] H → va_D A [(p0, .inl (tA 0, p0_n, .inl p0_c))] → va_S A s.heap H locs → lv_has ls 4 [(0, .ref p0), (1, .int l1), (2, .int l2), (3, .int l3)] → W p l e { frames := 0, cells := 0, slots := 0, locals := 0 } s m args below meth c H locs 0 0 (MQ below (va_Qv (fun (u9 : Unit) => True) (zPost D A (fun (u9 : Unit) => [(p0, .inl (tA 0, p0_n, .inl out))])) A) args s 0 0 A) (F0 m 5 ls [])) := by
  intro n
  induction n with
  | zero => exact ⟨(fun _ _ _ _ _ _ hF => by rw [z_JA_fill0] at hF; cases hF), (fun _ _ _ _ _ _ hF => by rw [z_JA_fill0] at hF; cases hF)⟩
  | succ n ih =>
    obtain ⟨i0, i1⟩ := ih
    exact ⟨b_JA_fill0_0 hx hb hr hml hh hg hown hlocks hK hA i1, b_JA_fill0_1 hx hb hr hml hh hg hown hlocks hK hA i1⟩
set_option maxHeartbeats 4000000 in
set_option maxRecDepth 100000 in
theorem m_JA_fill0 (l : Launch) (D : va_G) (tA : Nat → ClassId) (sz : Nat) (p0 : Nat) (p0_n : Nat) (l1 : Int32) (p0_c : Nat → Int32) (n : Nat) (out : (Nat → Int32)) (hF : f_JA_fill0 p0_n l1 n 0 p0_c 0 0 = some out) : zMv l ({ cls := "java/util/Arrays", name := "fill", desc := "([II)V" } : Jvm.MethodName) (zW (Jvm.Cond.code ({ cls := "java/util/Arrays", name := "fill", desc := "([II)V" } : Jvm.MethodName) prog_39_method_103_code (4 : Nat) (Option.none : Option Jvm.ClassFile.FieldType))) { frames := 0, cells := 0, slots := 0, locals := 0 } [.ref p0, .int l1] D tA [(p0, .inl (tA 0, p0_n, .inl p0_c))] sz (fun (u9 : Unit) => True) (fun (u9 : Unit) => [(p0, .inl (tA 0, p0_n, .inl out))]) 0 0 := by
  refine zOpen (l := l) (y := ({ cls := "java/util/Arrays", name := "fill", desc := "([II)V" } : Jvm.MethodName)) (ws := zW (Jvm.Cond.code ({ cls := "java/util/Arrays", name := "fill", desc := "([II)V" } : Jvm.MethodName) prog_39_method_103_code (4 : Nat) (Option.none : Option Jvm.ClassFile.FieldType))) (rm := { frames := 0, cells := 0, slots := 0, locals := 0 }) (av := [.ref p0, .int l1]) (D := D) (tA := tA) (W0 := [(p0, .inl (tA 0, p0_n, .inl p0_c))]) (Wm := [(p0, .inl (tA 0, p0_n, .inl p0_c))]) (sz := sz) (mc := 0) (ms := 0) (fun A => va_Qv (fun (u9 : Unit) => True) (zPost D A (fun (u9 : Unit) => [(p0, .inl (tA 0, p0_n, .inl out))])) A) (lv := [(0, .ref p0), (1, .int l1)]) (by decide) rfl (Nat.le_of_ble_eq_true rfl) rfl ?_
  intro p e s m below meth c A ls hx hb hr hml hh hg hown hlocks hnm hK hA hP hD0 hAw hS hl
  have hD := zD hD0 hAw
  exact (a_JA_fill0 hx hb hr hml hh hg hown hlocks hK hA n).1 p0_c 0 0   _ _ _ hF  hP hD hS hl
def f_CA_adopt (h0_game_told_n : Nat) (h0_solver_choices_n : Nat) (h0_values_known : Int32) (h0_game_count : Int32) (h0_solver_choices_c : Nat → Int32) : Nat → Nat → (Nat → Int32) → Int32 → Option ((Nat → Int32))
  | 0, _, _, _ => none
  | n + 1, 0, h0_game_told_c, l1 => if ¬ (h0_values_known : Int32) = 0 then f_CA_adopt h0_game_told_n h0_solver_choices_n h0_values_known h0_game_count h0_solver_choices_c n 1 h0_game_told_c 0 else none
  | n + 1, 1, h0_game_told_c, l1 => if (h0_game_count : Int32) ≤ l1 then some (h0_game_told_c) else chk (0 ≤ (l1 : Int32).toInt ∧ (l1 : Int32).toInt < h0_solver_choices_n) (chk (0 ≤ (l1 : Int32).toInt ∧ (l1 : Int32).toInt < h0_game_told_n) (f_CA_adopt h0_game_told_n h0_solver_choices_n h0_values_known h0_game_count h0_solver_choices_c n 1 (upd h0_game_told_c (l1 : Int32).toNatClampNeg (if ((h0_solver_choices_c (l1 : Int32).toNatClampNeg) : Int32) < 0 then 0 else (h0_solver_choices_c (l1 : Int32).toNatClampNeg))) (l1 + Int32.ofInt 1)))
  | _ + 1, _ + 2, _, _ => none
theorem e_CA_adopt_0 (h0_game_told_n : Nat) (h0_solver_choices_n : Nat) (h0_values_known : Int32) (h0_game_count : Int32) (h0_solver_choices_c : Nat → Int32) (n : Nat) (h0_game_told_c : Nat → Int32) (l1 : Int32) : f_CA_adopt h0_game_told_n h0_solver_choices_n h0_values_known h0_game_count h0_solver_choices_c (n + 1) 0 h0_game_told_c l1 = if ¬ (h0_values_known : Int32) = 0 then f_CA_adopt h0_game_told_n h0_solver_choices_n h0_values_known h0_game_count h0_solver_choices_c n 1 h0_game_told_c 0 else none := by rw [f_CA_adopt]
theorem e_CA_adopt_1 (h0_game_told_n : Nat) (h0_solver_choices_n : Nat) (h0_values_known : Int32) (h0_game_count : Int32) (h0_solver_choices_c : Nat → Int32) (n : Nat) (h0_game_told_c : Nat → Int32) (l1 : Int32) : f_CA_adopt h0_game_told_n h0_solver_choices_n h0_values_known h0_game_count h0_solver_choices_c (n + 1) 1 h0_game_told_c l1 = if (h0_game_count : Int32) ≤ l1 then some (h0_game_told_c) else chk (0 ≤ (l1 : Int32).toInt ∧ (l1 : Int32).toInt < h0_solver_choices_n) (chk (0 ≤ (l1 : Int32).toInt ∧ (l1 : Int32).toInt < h0_game_told_n) (f_CA_adopt h0_game_told_n h0_solver_choices_n h0_values_known h0_game_count h0_solver_choices_c n 1 (upd h0_game_told_c (l1 : Int32).toNatClampNeg (if ((h0_solver_choices_c (l1 : Int32).toNatClampNeg) : Int32) < 0 then 0 else (h0_solver_choices_c (l1 : Int32).toNatClampNeg))) (l1 + Int32.ofInt 1))) := by rw [f_CA_adopt]
theorem z_CA_adopt (h0_game_told_n : Nat) (h0_solver_choices_n : Nat) (h0_values_known : Int32) (h0_game_count : Int32) (h0_solver_choices_c : Nat → Int32) (h : Nat) (h0_game_told_c : Nat → Int32) (l1 : Int32) : f_CA_adopt h0_game_told_n h0_solver_choices_n h0_values_known h0_game_count h0_solver_choices_c 0 h h0_game_told_c l1 = none := by rw [f_CA_adopt]
set_option maxHeartbeats 4000000 in
set_option maxRecDepth 100000 in
theorem b_CA_adopt_0 {p : Program} {l : Launch} {e : Env} {s : State} {m : MethodId} {args : Array Value} {below : List Frame} {meth : Method} {c : Code} {D : va_G} {tA : Nat → ClassId} {A : Nat → Prop} {h0 h0_values h0_game h0_game_told h0_solver h0_solver_choices : Nat} {f0_h0 f0_h0_values f0_h0_game f0_h0_solver : List Value} {h0_game_told_n : Nat} {h0_solver_choices_n : Nat} {h0_values_known : Int32} {h0_game_count : Int32} {h0_solver_choices_c : Nat → Int32} {out : (Nat → Int32)} (hx : p.tables.exec = Jvm.exec) (hb : c.code = prog_1_method_22_code) (hr : meth.sig.returnType = (Option.none : Option Jvm.ClassFile.FieldType)) (hml : c.maxLocals = 2) (hh : zH s) (hg : ∀ w ∈ lw_R, w.before args s = true) (hown : s.vm.findClass "ChanceArena" = some m.cls) (hlocks : meth.locks = false) (hK : va_K D vwCl (zT tA) s) (hA : ∀ q, s.heap.size ≤ q → A q) {n : Nat} (ih1 : ∀ (h0_game_told_c : Nat → Int32) (l1 : Int32) (H : Heap) (locs : List Loc) (ls : Array Slot), f_CA_adopt h0_game_told_n h0_solver_choices_n h0_values_known h0_game_count h0_solver_choices_c n 1 h0_game_told_c l1 = some out → f0_h0[11]? = some (.ref h0_values) → f0_h0[9]? = some (.ref h0_game) → f0_h0[10]? = some (.ref h0_solver) → f0_h0_values[1]? = some (.int h0_values_known) → f0_h0_game[3]? = some (.ref h0_game_told) → f0_h0_game[0]? = some (.int h0_game_count) → f0_h0_solver[2]? = some (.ref h0_solver_choices) → va_P D vwCl [(h0, .inr (0, f0_h0)), (h0_values, .inr (12, f0_h0_values)), (h0_game, .inr (6, f0_h0_game)), (h0_game_told, .inl (tA 0, h0_game_told_n, .inl h0_game_told_c)), (h0_solver, .inr (7, f0_h0_solver)), (h0_solver_choices, .inl (tA 0, h0_solver_choices_n, .inl h0_solver_choices_c))] H → va_D A [(h0, .inr (0, f0_h0)), (h0_values, .inr (12, f0_h0_values)), (h0_game, .inr (6, f0_h0_game)), (h0_game_told, .inl (tA 0, h0_game_told_n, .inl h0_game_told_c)), (h0_solver, .inr (7, f0_h0_solver)), (h0_solver_choices, .inl (tA 0, h0_solver_choices_n, .inl h0_solver_choices_c))] → va_S A s.heap H locs → lv_has ls 2 [(0, .ref h0), (1, .int l1)] → W p l e { frames := 1, cells := 0, slots := 0, locals := 20 } s m args below meth c H locs 0 0 (MQ below (va_Qv (fun (u9 : Unit) => True) (zPost D A (fun (u9 : Unit) => [(h0, .inr (0, f0_h0)), (h0_values, .inr (12, f0_h0_values)), (h0_game, .inr (6, f0_h0_game)), (h0_game_told, .inl (tA 0, h0_game_told_n, .inl out)), (h0_solver, .inr (7, f0_h0_solver)), (h0_solver_choices, .inl (tA 0, h0_solver_choices_n, .inl h0_solver_choices_c))])) A) args s 0 0 A) (F0 m 20 ls [])) : ∀ (h0_game_told_c : Nat → Int32) (l1 : Int32) (H : Heap) (locs : List Loc) (ls : Array Slot), f_CA_adopt h0_game_told_n h0_solver_choices_n h0_values_known h0_game_count h0_solver_choices_c (n + 1) 0 h0_game_told_c l1 = some out → f0_h0[11]? = some (.ref h0_values) → f0_h0[9]? = some (.ref h0_game) → f0_h0[10]? = some (.ref h0_solver) → f0_h0_values[1]? = some (.int h0_values_known) → f0_h0_game[3]? = some (.ref h0_game_told) → f0_h0_game[0]? = some (.int h0_game_count) → f0_h0_solver[2]? = some (.ref h0_solver_choices) → va_P D vwCl [(h0, .inr (0, f0_h0)), (h0_values, .inr (12, f0_h0_values)), (h0_game, .inr (6, f0_h0_game)), (h0_game_told, .inl (tA 0, h0_game_told_n, .inl h0_game_told_c)), (h0_solver, .inr (7, f0_h0_solver)), (h0_solver_choices, .inl (tA 0, h0_solver_choices_n, .inl h0_solver_choices_c))] H → va_D A [(h0, .inr (0, f0_h0)), (h0_values, .inr (12, f0_h0_values)), (h0_game, .inr (6, f0_h0_game)), (h0_game_told, .inl (tA 0, h0_game_told_n, .inl h0_game_told_c)), (h0_solver, .inr (7, f0_h0_solver)), (h0_solver_choices, .inl (tA 0, h0_solver_choices_n, .inl h0_solver_choices_c))] → va_S A s.heap H locs → lv_has ls 2 [(0, .ref h0)] → W p l e { frames := 1, cells := 0, slots := 0, locals := 20 } s m args below meth c H locs 0 0 (MQ below (va_Qv (fun (u9 : Unit) => True) (zPost D A (fun (u9 : Unit) => [(h0, .inr (0, f0_h0)), (h0_values, .inr (12, f0_h0_values)), (h0_game, .inr (6, f0_h0_game)), (h0_game_told, .inl (tA 0, h0_game_told_n, .inl out)), (h0_solver, .inr (7, f0_h0_solver)), (h0_solver_choices, .inl (tA 0, h0_solver_choices_n, .inl h0_solver_choices_c))])) A) args s 0 0 A) (F0 m 0 ls []) := by
  intro h0_game_told_c l1   H locs ls hF q_h0_values q_h0_game q_h0_solver q_h0_values_known q_h0_game_told q_h0_game_count q_h0_solver_choices hP hD hS hl
  rw [e_CA_adopt_0] at hF
  refine lv_aload_n hx hb d_CA_adopt_0 rfl (lv_at hl 0 rfl) ?_
  refine va_get (D := D) (ci := 0) (v := .ref h0_values) (C := R_CA) (T := T_CA) (N := 19) hx hb hg i_CA hown hK hP 0 rfl rfl 11 (by decide) (hg _ k3_186) (fun _ h9 => h9) q_h0_values d_CA_adopt_1 ?_
  refine va_get (D := D) (ci := 12) (v := .int h0_values_known) (C := R_Fs) (T := T_Fs) (N := 2) hx hb hg i_Fs hown hK hP 1 rfl rfl 1 (by decide) (hg _ k3_165) (fun _ h9 => h9) q_h0_values_known d_CA_adopt_4 ?_
  refine lv_if_ne (tgt := 18) hx hb d_CA_adopt_7 (by decide) (fun c9 => ?_) (fun c9 => ?_)
  · replace hF := ifp c9 hF
    refine lv_iconst (v := 0) hx hb d_CA_adopt_18 (by decide) ?_
    refine lv_istore_n (lv' := [(1, .int 0), (0, .ref h0)]) hx hb d_CA_adopt_19 rfl hl (by decide) rfl (fun ls hl => ?_)
    exact ih1 h0_game_told_c 0   _ _ _ hF q_h0_values q_h0_game q_h0_solver q_h0_values_known q_h0_game_told q_h0_game_count q_h0_solver_choices hP hD hS (lv_sub hl [1, 0] rfl)
  · replace hF := ifn (fun h9 => h9 c9) hF
    cases hF
set_option maxHeartbeats 4000000 in
set_option maxRecDepth 100000 in
theorem b_CA_adopt_1 {p : Program} {l : Launch} {e : Env} {s : State} {m : MethodId} {args : Array Value} {below : List Frame} {meth : Method} {c : Code} {D : va_G} {tA : Nat → ClassId} {A : Nat → Prop} {h0 h0_values h0_game h0_game_told h0_solver h0_solver_choices : Nat} {f0_h0 f0_h0_values f0_h0_game f0_h0_solver : List Value} {h0_game_told_n : Nat} {h0_solver_choices_n : Nat} {h0_values_known : Int32} {h0_game_count : Int32} {h0_solver_choices_c : Nat → Int32} {out : (Nat → Int32)} (hx : p.tables.exec = Jvm.exec) (hb : c.code = prog_1_method_22_code) (hr : meth.sig.returnType = (Option.none : Option Jvm.ClassFile.FieldType)) (hml : c.maxLocals = 2) (hh : zH s) (hg : ∀ w ∈ lw_R, w.before args s = true) (hown : s.vm.findClass "ChanceArena" = some m.cls) (hlocks : meth.locks = false) (hK : va_K D vwCl (zT tA) s) (hA : ∀ q, s.heap.size ≤ q → A q) {n : Nat} (ih1 : ∀ (h0_game_told_c : Nat → Int32) (l1 : Int32) (H : Heap) (locs : List Loc) (ls : Array Slot), f_CA_adopt h0_game_told_n h0_solver_choices_n h0_values_known h0_game_count h0_solver_choices_c n 1 h0_game_told_c l1 = some out → f0_h0[11]? = some (.ref h0_values) → f0_h0[9]? = some (.ref h0_game) → f0_h0[10]? = some (.ref h0_solver) → f0_h0_values[1]? = some (.int h0_values_known) → f0_h0_game[3]? = some (.ref h0_game_told) → f0_h0_game[0]? = some (.int h0_game_count) → f0_h0_solver[2]? = some (.ref h0_solver_choices) → va_P D vwCl [(h0, .inr (0, f0_h0)), (h0_values, .inr (12, f0_h0_values)), (h0_game, .inr (6, f0_h0_game)), (h0_game_told, .inl (tA 0, h0_game_told_n, .inl h0_game_told_c)), (h0_solver, .inr (7, f0_h0_solver)), (h0_solver_choices, .inl (tA 0, h0_solver_choices_n, .inl h0_solver_choices_c))] H → va_D A [(h0, .inr (0, f0_h0)), (h0_values, .inr (12, f0_h0_values)), (h0_game, .inr (6, f0_h0_game)), (h0_game_told, .inl (tA 0, h0_game_told_n, .inl h0_game_told_c)), (h0_solver, .inr (7, f0_h0_solver)), (h0_solver_choices, .inl (tA 0, h0_solver_choices_n, .inl h0_solver_choices_c))] → va_S A s.heap H locs → lv_has ls 2 [(0, .ref h0), (1, .int l1)] → W p l e { frames := 1, cells := 0, slots := 0, locals := 20 } s m args below meth c H locs 0 0 (MQ below (va_Qv (fun (u9 : Unit) => True) (zPost D A (fun (u9 : Unit) => [(h0, .inr (0, f0_h0)), (h0_values, .inr (12, f0_h0_values)), (h0_game, .inr (6, f0_h0_game)), (h0_game_told, .inl (tA 0, h0_game_told_n, .inl out)), (h0_solver, .inr (7, f0_h0_solver)), (h0_solver_choices, .inl (tA 0, h0_solver_choices_n, .inl h0_solver_choices_c))])) A) args s 0 0 A) (F0 m 20 ls [])) : ∀ (h0_game_told_c : Nat → Int32) (l1 : Int32) (H : Heap) (locs : List Loc) (ls : Array Slot), f_CA_adopt h0_game_told_n h0_solver_choices_n h0_values_known h0_game_count h0_solver_choices_c (n + 1) 1 h0_game_told_c l1 = some out → f0_h0[11]? = some (.ref h0_values) → f0_h0[9]? = some (.ref h0_game) → f0_h0[10]? = some (.ref h0_solver) → f0_h0_values[1]? = some (.int h0_values_known) → f0_h0_game[3]? = some (.ref h0_game_told) → f0_h0_game[0]? = some (.int h0_game_count) → f0_h0_solver[2]? = some (.ref h0_solver_choices) → va_P D vwCl [(h0, .inr (0, f0_h0)), (h0_values, .inr (12, f0_h0_values)), (h0_game, .inr (6, f0_h0_game)), (h0_game_told, .inl (tA 0, h0_game_told_n, .inl h0_game_told_c)), (h0_solver, .inr (7, f0_h0_solver)), (h0_solver_choices, .inl (tA 0, h0_solver_choices_n, .inl h0_solver_choices_c))] H → va_D A [(h0, .inr (0, f0_h0)), (h0_values, .inr (12, f0_h0_values)), (h0_game, .inr (6, f0_h0_game)), (h0_game_told, .inl (tA 0, h0_game_told_n, .inl h0_game_told_c)), (h0_solver, .inr (7, f0_h0_solver)), (h0_solver_choices, .inl (tA 0, h0_solver_choices_n, .inl h0_solver_choices_c))] → va_S A s.heap H locs → lv_has ls 2 [(0, .ref h0), (1, .int l1)] → W p l e { frames := 1, cells := 0, slots := 0, locals := 20 } s m args below meth c H locs 0 0 (MQ below (va_Qv (fun (u9 : Unit) => True) (zPost D A (fun (u9 : Unit) => [(h0, .inr (0, f0_h0)), (h0_values, .inr (12, f0_h0_values)), (h0_game, .inr (6, f0_h0_game)), (h0_game_told, .inl (tA 0, h0_game_told_n, .inl out)), (h0_solver, .inr (7, f0_h0_solver)), (h0_solver_choices, .inl (tA 0, h0_solver_choices_n, .inl h0_solver_choices_c))])) A) args s 0 0 A) (F0 m 20 ls []) := by
  intro h0_game_told_c l1   H locs ls hF q_h0_values q_h0_game q_h0_solver q_h0_values_known q_h0_game_told q_h0_game_count q_h0_solver_choices hP hD hS hl
  rw [e_CA_adopt_1] at hF
  refine lv_iload_n hx hb d_CA_adopt_20 rfl (lv_at hl 1 rfl) ?_
  refine lv_aload_n hx hb d_CA_adopt_21 rfl (lv_at hl 0 rfl) ?_
  refine va_get (D := D) (ci := 0) (v := .ref h0_game) (C := R_CA) (T := T_CA) (N := 19) hx hb hg i_CA hown hK hP 0 rfl rfl 9 (by decide) (hg _ k3_184) (fun _ h9 => h9) q_h0_game d_CA_adopt_22 ?_
  refine va_get (D := D) (ci := 6) (v := .int h0_game_count) (C := R_Ga) (T := T_Ga) (N := 19) hx hb hg i_Ga hown hK hP 2 rfl rfl 0 (by decide) (hg _ k2_138) (fun _ h9 => h9) q_h0_game_count d_CA_adopt_25 ?_
  refine lv_icmp_ge (tgt := 59) hx hb d_CA_adopt_28 (by decide) (fun c9 => ?_) (fun c9 => ?_)
  · replace hF := ifp c9 hF
    replace hF := Option.some.inj hF
    subst hF
    exact zVret (post := (fun (u9 : Unit) => True)) (W1 := (fun (u9 : Unit) => [(h0, .inr (0, f0_h0)), (h0_values, .inr (12, f0_h0_values)), (h0_game, .inr (6, f0_h0_game)), (h0_game_told, .inl (tA 0, h0_game_told_n, .inl (h0_game_told_c))), (h0_solver, .inr (7, f0_h0_solver)), (h0_solver_choices, .inl (tA 0, h0_solver_choices_n, .inl h0_solver_choices_c))])) hx hb hr hlocks hP hD hS () trivial rfl d_CA_adopt_59
  · replace hF := ifn c9 hF
    refine lv_aload_n hx hb d_CA_adopt_31 rfl (lv_at hl 0 rfl) ?_
    refine va_get (D := D) (ci := 0) (v := .ref h0_game) (C := R_CA) (T := T_CA) (N := 19) hx hb hg i_CA hown hK hP 0 rfl rfl 9 (by decide) (hg _ k3_184) (fun _ h9 => h9) q_h0_game d_CA_adopt_32 ?_
    refine va_get (D := D) (ci := 6) (v := .ref h0_game_told) (C := R_Ga) (T := T_Ga) (N := 19) hx hb hg i_Ga hown hK hP 2 rfl rfl 3 (by decide) (hg _ k2_148) (fun _ h9 => h9) q_h0_game_told d_CA_adopt_35 ?_
    refine lv_iload_n hx hb d_CA_adopt_38 rfl (lv_at hl 1 rfl) ?_
    refine lv_aload_n hx hb d_CA_adopt_39 rfl (lv_at hl 0 rfl) ?_
    refine va_get (D := D) (ci := 0) (v := .ref h0_solver) (C := R_CA) (T := T_CA) (N := 19) hx hb hg i_CA hown hK hP 0 rfl rfl 10 (by decide) (hg _ k3_185) (fun _ h9 => h9) q_h0_solver d_CA_adopt_40 ?_
    refine va_get (D := D) (ci := 7) (v := .ref h0_solver_choices) (C := R_So) (T := T_So) (N := 14) hx hb hg i_So hown hK hP 4 rfl rfl 2 (by decide) (hg _ k3_110) (fun _ h9 => h9) q_h0_solver_choices d_CA_adopt_43 ?_
    refine lv_iload_n hx hb d_CA_adopt_46 rfl (lv_at hl 1 rfl) ?_
    obtain ⟨h9, hF⟩ := chk_some hF
    refine va_iald hx hb hK hP 5 0 rfl rfl (vp_in_iff.mpr h9) d_CA_adopt_47 ?_
    refine lv_iconst (v := 0) hx hb d_CA_adopt_48 (by decide) ?_
    refine va_mmax hx hb (hml.trans hl.1.symm) hown (hg _ k8_191) (hg _ k4_208) (hg _ k1_30) (hg _ k4_209) (Nat.le_of_ble_eq_true rfl) (Nat.le_of_ble_eq_true rfl) (Nat.le_of_ble_eq_true rfl) (Nat.le_of_ble_eq_true rfl) d_CA_adopt_49 ?_
    obtain ⟨h9, hF⟩ := chk_some hF
    refine va_iast hx hb hK hP hD hS 3 0 rfl rfl (vp_in_iff.mpr h9) d_CA_adopt_52 (fun H1 locs1 hP1 hD1 hS1 => ?_)
    clear hP hD hS
    replace hP1 : va_P D vwCl [(h0, .inr (0, f0_h0)), (h0_values, .inr (12, f0_h0_values)), (h0_game, .inr (6, f0_h0_game)), (h0_game_told, .inl (tA 0, h0_game_told_n, .inl (upd h0_game_told_c (l1 : Int32).toNatClampNeg (if ((h0_solver_choices_c (l1 : Int32).toNatClampNeg) : Int32) < 0 then 0 else (h0_solver_choices_c (l1 : Int32).toNatClampNeg))))), (h0_solver, .inr (7, f0_h0_solver)), (h0_solver_choices, .inl (tA 0, h0_solver_choices_n, .inl h0_solver_choices_c))] _ := hP1
    replace hD1 : va_D A [(h0, .inr (0, f0_h0)), (h0_values, .inr (12, f0_h0_values)), (h0_game, .inr (6, f0_h0_game)), (h0_game_told, .inl (tA 0, h0_game_told_n, .inl (upd h0_game_told_c (l1 : Int32).toNatClampNeg (if ((h0_solver_choices_c (l1 : Int32).toNatClampNeg) : Int32) < 0 then 0 else (h0_solver_choices_c (l1 : Int32).toNatClampNeg))))), (h0_solver, .inr (7, f0_h0_solver)), (h0_solver_choices, .inl (tA 0, h0_solver_choices_n, .inl h0_solver_choices_c))] := hD1
    refine lv_iinc (v := (l1 + Int32.ofInt 1)) (lv' := [(1, .int (l1 + Int32.ofInt 1)), (0, .ref h0)]) hx hb d_CA_adopt_53 hl (k := 1) rfl rfl (by decide) rfl (fun ls hl => ?_)
    refine lv_goto (tgt := 20) hx hb d_CA_adopt_56 (by decide) ?_
    exact ih1 (upd h0_game_told_c (l1 : Int32).toNatClampNeg (if ((h0_solver_choices_c (l1 : Int32).toNatClampNeg) : Int32) < 0 then 0 else (h0_solver_choices_c (l1 : Int32).toNatClampNeg))) (l1 + Int32.ofInt 1)   _ _ _ hF q_h0_values q_h0_game q_h0_solver q_h0_values_known q_h0_game_told q_h0_game_count q_h0_solver_choices hP1 hD1 hS1 (lv_sub hl [1, 0] rfl)
set_option maxHeartbeats 4000000 in
set_option maxRecDepth 100000 in
theorem a_CA_adopt {p : Program} {l : Launch} {e : Env} {s : State} {m : MethodId} {args : Array Value} {below : List Frame} {meth : Method} {c : Code} {D : va_G} {tA : Nat → ClassId} {A : Nat → Prop} {h0 h0_values h0_game h0_game_told h0_solver h0_solver_choices : Nat} {f0_h0 f0_h0_values f0_h0_game f0_h0_solver : List Value} {h0_game_told_n : Nat} {h0_solver_choices_n : Nat} {h0_values_known : Int32} {h0_game_count : Int32} {h0_solver_choices_c : Nat → Int32} {out : (Nat → Int32)} (hx : p.tables.exec = Jvm.exec) (hb : c.code = prog_1_method_22_code) (hr : meth.sig.returnType = (Option.none : Option Jvm.ClassFile.FieldType)) (hml : c.maxLocals = 2) (hh : zH s) (hg : ∀ w ∈ lw_R, w.before args s = true) (hown : s.vm.findClass "ChanceArena" = some m.cls) (hlocks : meth.locks = false) (hK : va_K D vwCl (zT tA) s) (hA : ∀ q, s.heap.size ≤ q → A q) : ∀ n : Nat, (∀ (h0_game_told_c : Nat → Int32) (l1 : Int32) (H : Heap) (locs : List Loc) (ls : Array Slot), f_CA_adopt h0_game_told_n h0_solver_choices_n h0_values_known h0_game_count h0_solver_choices_c n 0 h0_game_told_c l1 = some out → f0_h0[11]? = some (.ref h0_values) → f0_h0[9]? = some (.ref h0_game) → f0_h0[10]? = some (.ref h0_solver) → f0_h0_values[1]? = some (.int h0_values_known) → f0_h0_game[3]? = some (.ref h0_game_told) → f0_h0_game[0]? = some (.int h0_game_count) → f0_h0_solver[2]? = some (.ref h0_solver_choices) → va_P D vwCl [(h0, .inr (0, f0_h0)), (h0_values, .inr (12, f0_h0_values)), (h0_game, .inr (6, f0_h0_game)), (h0_game_told, .inl (tA 0, h0_game_told_n, .inl h0_game_told_c)), (h0_solver, .inr (7, f0_h0_solver)), (h0_solver_choices, .inl (tA 0, h0_solver_choices_n, .inl h0_solver_choices_c))] H → va_D A [(h0, .inr (0, f0_h0)), (h0_values, .inr (12, f0_h0_values)), (h0_game, .inr (6, f0_h0_game)), (h0_game_told, .inl (tA 0, h0_game_told_n, .inl h0_game_told_c)), (h0_solver, .inr (7, f0_h0_solver)), (h0_solver_choices, .inl (tA 0, h0_solver_choices_n, .inl h0_solver_choices_c))] → va_S A s.heap H locs → lv_has ls 2 [(0, .ref h0)] → W p l e { frames := 1, cells := 0, slots := 0, locals := 20 } s m args below meth c H locs 0 0 (MQ below (va_Qv (fun (u9 : Unit) => True) (zPost D A (fun (u9 : Unit) => [(h0, .inr (0, f0_h0)), (h0_values, .inr (12, f0_h0_values)), (h0_game, .inr (6, f0_h0_game)), (h0_game_told, .inl (tA 0, h0_game_told_n, .inl out)), (h0_solver, .inr (7, f0_h0_solver)), (h0_solver_choices, .inl (tA 0, h0_solver_choices_n, .inl h0_solver_choices_c))])) A) args s 0 0 A) (F0 m 0 ls [])) ∧ (∀ (h0_game_told_c : Nat → Int32) (l1 : Int32) (H : Heap) (locs : List Loc) (ls : Array Slot), f_CA_adopt h0_game_told_n h0_solver_choices_n h0_values_known h0_game_count h0_solver_choices_c n 1 h0_game_told_c l1 = some out → f0_h0[11]? = some (.ref h0_values) → f0_h0[9]? = some (.ref h0_game) → f0_h0[10]? = some (.ref h0_solver) → f0_h0_values[1]? = some (.int h0_values_known) → f0_h0_game[3]? = some (.ref h0_game_told) → f0_h0_game[0]? = some (.int h0_game_count) → f0_h0_solver[2]? = some (.ref h0_solver_choices) → va_P D vwCl [(h0, .inr (0, f0_h0)), (h0_values, .inr (12, f0_h0_values)), (h0_game, .inr (6, f0_h0_game)), (h0_game_told, .inl (tA 0, h0_game_told_n, .inl h0_game_told_c)), (h0_solver, .inr (7, f0_h0_solver)), (h0_solver_choices, .inl (tA 0, h0_solver_choices_n, .inl h0_solver_choices_c))] H → va_D A [(h0, .inr (0, f0_h0)), (h0_values, .inr (12, f0_h0_values)), (h0_game, .inr (6, f0_h0_game)), (h0_game_told, .inl (tA 0, h0_game_told_n, .inl h0_game_told_c)), (h0_solver, .inr (7, f0_h0_solver)), (h0_solver_choices, .inl (tA 0, h0_solver_choices_n, .inl h0_solver_choices_c))] → va_S A s.heap H locs → lv_has ls 2 [(0, .ref h0), (1, .int l1)] → W p l e { frames := 1, cells := 0, slots := 0, locals := 20 } s m args below meth c H locs 0 0 (MQ below (va_Qv (fun (u9 : Unit) => True) (zPost D A (fun (u9 : Unit) => [(h0, .inr (0, f0_h0)), (h0_values, .inr (12, f0_h0_values)), (h0_game, .inr (6, f0_h0_game)), (h0_game_told, .inl (tA 0, h0_game_told_n, .inl out)), (h0_solver, .inr (7, f0_h0_solver)), (h0_solver_choices, .inl (tA 0, h0_solver_choices_n, .inl h0_solver_choices_c))])) A) args s 0 0 A) (F0 m 20 ls [])) := by
  intro n
  induction n with
  | zero => exact ⟨(fun _ _ _ _ _ hF => by rw [z_CA_adopt] at hF; cases hF), (fun _ _ _ _ _ hF => by rw [z_CA_adopt] at hF; cases hF)⟩
  | succ n ih =>
    obtain ⟨i0, i1⟩ := ih
    exact ⟨b_CA_adopt_0 hx hb hr hml hh hg hown hlocks hK hA i1, b_CA_adopt_1 hx hb hr hml hh hg hown hlocks hK hA i1⟩
set_option maxHeartbeats 4000000 in
set_option maxRecDepth 100000 in
theorem m_CA_adopt (l : Launch) (D : va_G) (tA : Nat → ClassId) (sz : Nat) (h0 h0_values h0_game h0_game_told h0_solver h0_solver_choices : Nat) (f0_h0 f0_h0_values f0_h0_game f0_h0_solver : List Value) (h0_game_told_n : Nat) (h0_solver_choices_n : Nat) (h0_values_known : Int32) (h0_game_count : Int32) (h0_solver_choices_c : Nat → Int32) (h0_game_told_c : Nat → Int32) (q_h0_values : f0_h0[11]? = some (.ref h0_values)) (q_h0_game : f0_h0[9]? = some (.ref h0_game)) (q_h0_solver : f0_h0[10]? = some (.ref h0_solver)) (q_h0_values_known : f0_h0_values[1]? = some (.int h0_values_known)) (q_h0_game_told : f0_h0_game[3]? = some (.ref h0_game_told)) (q_h0_game_count : f0_h0_game[0]? = some (.int h0_game_count)) (q_h0_solver_choices : f0_h0_solver[2]? = some (.ref h0_solver_choices)) (n : Nat) (out : (Nat → Int32)) (hF : f_CA_adopt h0_game_told_n h0_solver_choices_n h0_values_known h0_game_count h0_solver_choices_c n 0 h0_game_told_c 0 = some out) : zMv l ({ cls := "ChanceArena", name := "adopt", desc := "()V" } : Jvm.MethodName) (zW (Jvm.Cond.code ({ cls := "ChanceArena", name := "adopt", desc := "()V" } : Jvm.MethodName) prog_1_method_22_code (2 : Nat) (Option.none : Option Jvm.ClassFile.FieldType))) { frames := 1, cells := 0, slots := 0, locals := 20 } [.ref h0] D tA [(h0, .inr (0, f0_h0)), (h0_values, .inr (12, f0_h0_values)), (h0_game, .inr (6, f0_h0_game)), (h0_game_told, .inl (tA 0, h0_game_told_n, .inl h0_game_told_c)), (h0_solver, .inr (7, f0_h0_solver)), (h0_solver_choices, .inl (tA 0, h0_solver_choices_n, .inl h0_solver_choices_c))] sz (fun (u9 : Unit) => True) (fun (u9 : Unit) => [(h0, .inr (0, f0_h0)), (h0_values, .inr (12, f0_h0_values)), (h0_game, .inr (6, f0_h0_game)), (h0_game_told, .inl (tA 0, h0_game_told_n, .inl out)), (h0_solver, .inr (7, f0_h0_solver)), (h0_solver_choices, .inl (tA 0, h0_solver_choices_n, .inl h0_solver_choices_c))]) 0 0 := by
  refine zOpen (l := l) (y := ({ cls := "ChanceArena", name := "adopt", desc := "()V" } : Jvm.MethodName)) (ws := zW (Jvm.Cond.code ({ cls := "ChanceArena", name := "adopt", desc := "()V" } : Jvm.MethodName) prog_1_method_22_code (2 : Nat) (Option.none : Option Jvm.ClassFile.FieldType))) (rm := { frames := 1, cells := 0, slots := 0, locals := 20 }) (av := [.ref h0]) (D := D) (tA := tA) (W0 := [(h0, .inr (0, f0_h0)), (h0_values, .inr (12, f0_h0_values)), (h0_game, .inr (6, f0_h0_game)), (h0_game_told, .inl (tA 0, h0_game_told_n, .inl h0_game_told_c)), (h0_solver, .inr (7, f0_h0_solver)), (h0_solver_choices, .inl (tA 0, h0_solver_choices_n, .inl h0_solver_choices_c))]) (Wm := [(h0, .inr (0, f0_h0)), (h0_values, .inr (12, f0_h0_values)), (h0_game, .inr (6, f0_h0_game)), (h0_game_told, .inl (tA 0, h0_game_told_n, .inl h0_game_told_c)), (h0_solver, .inr (7, f0_h0_solver)), (h0_solver_choices, .inl (tA 0, h0_solver_choices_n, .inl h0_solver_choices_c))]) (sz := sz) (mc := 0) (ms := 0) (fun A => va_Qv (fun (u9 : Unit) => True) (zPost D A (fun (u9 : Unit) => [(h0, .inr (0, f0_h0)), (h0_values, .inr (12, f0_h0_values)), (h0_game, .inr (6, f0_h0_game)), (h0_game_told, .inl (tA 0, h0_game_told_n, .inl out)), (h0_solver, .inr (7, f0_h0_solver)), (h0_solver_choices, .inl (tA 0, h0_solver_choices_n, .inl h0_solver_choices_c))])) A) (lv := [(0, .ref h0)]) (by decide) rfl (Nat.le_of_ble_eq_true rfl) rfl ?_
  intro p e s m below meth c A ls hx hb hr hml hh hg hown hlocks hnm hK hA hP hD0 hAw hS hl
  have hD := zD hD0 hAw
  exact (a_CA_adopt hx hb hr hml hh hg hown hlocks hK hA n).1 h0_game_told_c 0   _ _ _ hF q_h0_values q_h0_game q_h0_solver q_h0_values_known q_h0_game_told q_h0_game_count q_h0_solver_choices hP hD hS hl
def f_MM_pushTruth (h0_above_n : Nat) (h0_below_n : Nat) (l1 : Int32) (h0_values : Int32) (h0_above_c : Nat → Int64) (h0_below_c : Nat → Int64) : Option (Int32 × (Nat → Int64) × (Nat → Int64)) := if (l1 : Int32) = 0 then Option.bind (f_MM_push h0_above_n h0_below_n 0 0 h0_values h0_above_c h0_below_c) (fun o1 => some (o1.1, o1.2.1, o1.2.2)) else Option.bind (f_MM_push h0_above_n h0_below_n 1 0 h0_values h0_above_c h0_below_c) (fun o2 => some (o2.1, o2.2.1, o2.2.2))
set_option maxHeartbeats 4000000 in
set_option maxRecDepth 100000 in
theorem b_MM_pushTruth_0 {p : Program} {l : Launch} {e : Env} {s : State} {m : MethodId} {args : Array Value} {below : List Frame} {meth : Method} {c : Code} {D : va_G} {tA : Nat → ClassId} {A : Nat → Prop} {h0 h0_above h0_below : Nat} {f0_h0 : List Value} {h0_above_n : Nat} {h0_below_n : Nat} {l1 : Int32} {h0_values : Int32} {h0_above_c : Nat → Int64} {h0_below_c : Nat → Int64} {out : Int32 × (Nat → Int64) × (Nat → Int64)} (hx : p.tables.exec = Jvm.exec) (hb : c.code = prog_15_method_51_code) (hr : meth.sig.returnType = (Option.none : Option Jvm.ClassFile.FieldType)) (hml : c.maxLocals = 2) (hh : zH s) (hg : ∀ w ∈ lw_R, w.before args s = true) (hown : s.vm.findClass "ChanceArenaModel" = some m.cls) (hlocks : meth.locks = false) (hK : va_K D vwCl (zT tA) s) (hA : ∀ q, s.heap.size ≤ q → A q)  : ∀ (f_h0 : List Value) (H : Heap) (locs : List Loc) (ls : Array Slot), f_MM_pushTruth h0_above_n h0_below_n l1 h0_values h0_above_c h0_below_c = some out → f_h0[21]? = some (.ref h0_above) → f_h0[22]? = some (.ref h0_below) → f_h0[23]? = some (.int h0_values) → Fr [23] f0_h0 f_h0 → va_P D vwCl [(h0, .inr (13, f_h0)), (h0_above, .inl (tA 3, h0_above_n, .inr (.inl h0_above_c))), (h0_below, .inl (tA 3, h0_below_n, .inr (.inl h0_below_c)))] H → va_D A [(h0, .inr (13, f_h0)), (h0_above, .inl (tA 3, h0_above_n, .inr (.inl h0_above_c))), (h0_below, .inl (tA 3, h0_below_n, .inr (.inl h0_below_c)))] → va_S A s.heap H locs → lv_has ls 2 [(0, .ref h0), (1, .int l1)] → W p l e { frames := 1, cells := 0, slots := 0, locals := 24 } s m args below meth c H locs 0 0 (MQ below (va_Qv (fun (u9 : List Value) => Fr [23] f0_h0 u9 ∧ u9[23]? = some (.int out.1)) (zPost D A (fun (u9 : List Value) => [(h0, .inr (13, u9)), (h0_above, .inl (tA 3, h0_above_n, .inr (.inl out.2.1))), (h0_below, .inl (tA 3, h0_below_n, .inr (.inl out.2.2)))])) A) args s 0 0 A) (F0 m 0 ls []) := by
  intro   f_h0 H locs ls hF q_h0_above q_h0_below q_h0_values r_h0 hP hD hS hl
  replace hF : ((if (l1 : Int32) = 0 then Option.bind (f_MM_push h0_above_n h0_below_n 0 0 h0_values h0_above_c h0_below_c) (fun o1 => some (o1.1, o1.2.1, o1.2.2)) else Option.bind (f_MM_push h0_above_n h0_below_n 1 0 h0_values h0_above_c h0_below_c) (fun o2 => some (o2.1, o2.2.1, o2.2.2))) : Option (Int32 × (Nat → Int64) × (Nat → Int64))) = some out := hF
  refine lv_aload_n hx hb d_MM_pushTruth_0 rfl (lv_at hl 0 rfl) ?_
  refine lv_iload_n hx hb d_MM_pushTruth_1 rfl (lv_at hl 1 rfl) ?_
  refine lv_if_eq (tgt := 9) hx hb d_MM_pushTruth_2 (by decide) (fun c9 => ?_) (fun c9 => ?_)
  · replace hF := ifp c9 hF
    refine lv_lconst (v := 0) hx hb d_MM_pushTruth_9 (by decide) ?_
    refine lv_lconst (v := 0) hx hb d_MM_pushTruth_10 (by decide) ?_
    obtain ⟨o1, h1, hF⟩ := bsome hF
    refine zCallv (wc := [(h0, .inr (13, f_h0)), (h0_above, .inl (tA 3, h0_above_n, .inr (.inl h0_above_c))), (h0_below, .inl (tA 3, h0_below_n, .inr (.inl h0_below_c)))]) (wr := []) hP hD hS hA [0, 1, 2] [] rfl rfl (by decide) (by decide) (va_runV (As := [.long 0, .long 0]) (rest := []) ⟨hx, hb, hml, hown, hg⟩ (m_MM_push l D tA _ h0 h0_above h0_below f_h0 h0_above_n h0_below_n 0 0 h0_values h0_above_c h0_below_c q_h0_above q_h0_below q_h0_values o1 h1) (zV 2 hg k11_197 k11_199 ks_MM_push k1_14 k11_200 rfl rfl (by decide +kernel) ⟨(Nat.le_of_ble_eq_true rfl), (Nat.le_of_ble_eq_true rfl)⟩) (zPreV hh hK hP hD [0, 1, 2] (by decide) rfl (ci := 13) rfl 0 rfl) rfl rfl hl.1 rfl (lv_room (Nat.le_of_ble_eq_true rfl)) d_MM_pushTruth_11 ⟨(Nat.le_of_ble_eq_true rfl), (Nat.le_of_ble_eq_true rfl)⟩) (fun v1_h0 H1 locs1 e1 hP1 hD1 hS1 => ?_)
    clear hP hD hS
    refine W.cs (cells' := 0) (slots' := 0) rfl rfl ?_
    obtain ⟨r1_h0, q1_h0_values⟩ := e1
    replace hP1 : va_P D vwCl [(h0, .inr (13, v1_h0)), (h0_above, .inl (tA 3, h0_above_n, .inr (.inl o1.2.1))), (h0_below, .inl (tA 3, h0_below_n, .inr (.inl o1.2.2)))] _ := hP1
    replace hD1 : va_D A [(h0, .inr (13, v1_h0)), (h0_above, .inl (tA 3, h0_above_n, .inr (.inl o1.2.1))), (h0_below, .inl (tA 3, h0_below_n, .inr (.inl o1.2.2)))] := hD1
    replace hF := Option.some.inj hF
    subst hF
    exact zVret (post := (fun (u9 : List Value) => Fr [23] f0_h0 u9 ∧ u9[23]? = some (.int ((o1.1, o1.2.1, o1.2.2).1)))) (W1 := (fun (u9 : List Value) => [(h0, .inr (13, u9)), (h0_above, .inl (tA 3, h0_above_n, .inr (.inl ((o1.1, o1.2.1, o1.2.2).2.1)))), (h0_below, .inl (tA 3, h0_below_n, .inr (.inl ((o1.1, o1.2.1, o1.2.2).2.2))))])) hx hb hr hlocks hP1 hD1 hS1 (v1_h0) ⟨(Fr.trans r_h0 (Fr.sub r1_h0 (by decide))), q1_h0_values⟩ rfl d_MM_pushTruth_14
  · replace hF := ifn c9 hF
    refine lv_lconst (v := 1) hx hb d_MM_pushTruth_5 (by decide) ?_
    refine lv_goto (tgt := 10) hx hb d_MM_pushTruth_6 (by decide) ?_
    refine lv_lconst (v := 0) hx hb d_MM_pushTruth_10 (by decide) ?_
    obtain ⟨o2, h2, hF⟩ := bsome hF
    refine zCallv (wc := [(h0, .inr (13, f_h0)), (h0_above, .inl (tA 3, h0_above_n, .inr (.inl h0_above_c))), (h0_below, .inl (tA 3, h0_below_n, .inr (.inl h0_below_c)))]) (wr := []) hP hD hS hA [0, 1, 2] [] rfl rfl (by decide) (by decide) (va_runV (As := [.long 1, .long 0]) (rest := []) ⟨hx, hb, hml, hown, hg⟩ (m_MM_push l D tA _ h0 h0_above h0_below f_h0 h0_above_n h0_below_n 1 0 h0_values h0_above_c h0_below_c q_h0_above q_h0_below q_h0_values o2 h2) (zV 2 hg k11_197 k11_199 ks_MM_push k1_14 k11_200 rfl rfl (by decide +kernel) ⟨(Nat.le_of_ble_eq_true rfl), (Nat.le_of_ble_eq_true rfl)⟩) (zPreV hh hK hP hD [0, 1, 2] (by decide) rfl (ci := 13) rfl 0 rfl) rfl rfl hl.1 rfl (lv_room (Nat.le_of_ble_eq_true rfl)) d_MM_pushTruth_11 ⟨(Nat.le_of_ble_eq_true rfl), (Nat.le_of_ble_eq_true rfl)⟩) (fun v2_h0 H1 locs1 e2 hP1 hD1 hS1 => ?_)
    clear hP hD hS
    refine W.cs (cells' := 0) (slots' := 0) rfl rfl ?_
    obtain ⟨r2_h0, q2_h0_values⟩ := e2
    replace hP1 : va_P D vwCl [(h0, .inr (13, v2_h0)), (h0_above, .inl (tA 3, h0_above_n, .inr (.inl o2.2.1))), (h0_below, .inl (tA 3, h0_below_n, .inr (.inl o2.2.2)))] _ := hP1
    replace hD1 : va_D A [(h0, .inr (13, v2_h0)), (h0_above, .inl (tA 3, h0_above_n, .inr (.inl o2.2.1))), (h0_below, .inl (tA 3, h0_below_n, .inr (.inl o2.2.2)))] := hD1
    replace hF := Option.some.inj hF
    subst hF
    exact zVret (post := (fun (u9 : List Value) => Fr [23] f0_h0 u9 ∧ u9[23]? = some (.int ((o2.1, o2.2.1, o2.2.2).1)))) (W1 := (fun (u9 : List Value) => [(h0, .inr (13, u9)), (h0_above, .inl (tA 3, h0_above_n, .inr (.inl ((o2.1, o2.2.1, o2.2.2).2.1)))), (h0_below, .inl (tA 3, h0_below_n, .inr (.inl ((o2.1, o2.2.1, o2.2.2).2.2))))])) hx hb hr hlocks hP1 hD1 hS1 (v2_h0) ⟨(Fr.trans r_h0 (Fr.sub r2_h0 (by decide))), q2_h0_values⟩ rfl d_MM_pushTruth_14
set_option maxHeartbeats 4000000 in
set_option maxRecDepth 100000 in
theorem m_MM_pushTruth (l : Launch) (D : va_G) (tA : Nat → ClassId) (sz : Nat) (h0 h0_above h0_below : Nat) (f0_h0 : List Value) (h0_above_n : Nat) (h0_below_n : Nat) (l1 : Int32) (h0_values : Int32) (h0_above_c : Nat → Int64) (h0_below_c : Nat → Int64) (q_h0_above : f0_h0[21]? = some (.ref h0_above)) (q_h0_below : f0_h0[22]? = some (.ref h0_below)) (q_h0_values : f0_h0[23]? = some (.int h0_values)) (out : Int32 × (Nat → Int64) × (Nat → Int64)) (hF : f_MM_pushTruth h0_above_n h0_below_n l1 h0_values h0_above_c h0_below_c = some out) : zMv l ({ cls := "ChanceArenaModel", name := "pushTruth", desc := "(Z)V" } : Jvm.MethodName) (zW (Jvm.Cond.code ({ cls := "ChanceArenaModel", name := "pushTruth", desc := "(Z)V" } : Jvm.MethodName) prog_15_method_51_code (2 : Nat) (Option.none : Option Jvm.ClassFile.FieldType))) { frames := 1, cells := 0, slots := 0, locals := 24 } [.ref h0, .int l1] D tA [(h0, .inr (13, f0_h0)), (h0_above, .inl (tA 3, h0_above_n, .inr (.inl h0_above_c))), (h0_below, .inl (tA 3, h0_below_n, .inr (.inl h0_below_c)))] sz (fun (u9 : List Value) => Fr [23] f0_h0 u9 ∧ u9[23]? = some (.int out.1)) (fun (u9 : List Value) => [(h0, .inr (13, u9)), (h0_above, .inl (tA 3, h0_above_n, .inr (.inl out.2.1))), (h0_below, .inl (tA 3, h0_below_n, .inr (.inl out.2.2)))]) 0 0 := by
  refine zOpen (l := l) (y := ({ cls := "ChanceArenaModel", name := "pushTruth", desc := "(Z)V" } : Jvm.MethodName)) (ws := zW (Jvm.Cond.code ({ cls := "ChanceArenaModel", name := "pushTruth", desc := "(Z)V" } : Jvm.MethodName) prog_15_method_51_code (2 : Nat) (Option.none : Option Jvm.ClassFile.FieldType))) (rm := { frames := 1, cells := 0, slots := 0, locals := 24 }) (av := [.ref h0, .int l1]) (D := D) (tA := tA) (W0 := [(h0, .inr (13, f0_h0)), (h0_above, .inl (tA 3, h0_above_n, .inr (.inl h0_above_c))), (h0_below, .inl (tA 3, h0_below_n, .inr (.inl h0_below_c)))]) (Wm := [(h0, .inr (13, f0_h0)), (h0_above, .inl (tA 3, h0_above_n, .inr (.inl h0_above_c))), (h0_below, .inl (tA 3, h0_below_n, .inr (.inl h0_below_c)))]) (sz := sz) (mc := 0) (ms := 0) (fun A => va_Qv (fun (u9 : List Value) => Fr [23] f0_h0 u9 ∧ u9[23]? = some (.int out.1)) (zPost D A (fun (u9 : List Value) => [(h0, .inr (13, u9)), (h0_above, .inl (tA 3, h0_above_n, .inr (.inl out.2.1))), (h0_below, .inl (tA 3, h0_below_n, .inr (.inl out.2.2)))])) A) (lv := [(0, .ref h0), (1, .int l1)]) (by decide) rfl (Nat.le_of_ble_eq_true rfl) rfl ?_
  intro p e s m below meth c A ls hx hb hr hml hh hg hown hlocks hnm hK hA hP hD0 hAw hS hl
  have hD := zD hD0 hAw
  exact b_MM_pushTruth_0 hx hb hr hml hh hg hown hlocks hK hA   f0_h0 _ _ _ hF q_h0_above q_h0_below q_h0_values Fr.rfl hP hD hS hl
def f_MM_divisor (L0 : Int64) (L2 : Int64) : Nat → Nat → Int64 → Int64 → Option (Int64)
  | 0, _, _, _ => none
  | n + 1, 0, L4, L6 => if (0 : Int32) ≤ (lg_cmp L0 0) then f_MM_divisor L0 L2 n 1 L0 L2 else f_MM_divisor L0 L2 n 1 (-L0) L2
  | n + 1, 1, L4, L6 => if ((lg_cmp L6 0) : Int32) ≤ 0 then some (L4) else chk (¬ (L6 : Int64) = 0) (f_MM_divisor L0 L2 n 1 L6 (L4 - L4 / L6 * L6))
  | _ + 1, _ + 2, _, _ => none
theorem e_MM_divisor_0 (L0 : Int64) (L2 : Int64) (n : Nat) (L4 : Int64) (L6 : Int64) : f_MM_divisor L0 L2 (n + 1) 0 L4 L6 = if (0 : Int32) ≤ (lg_cmp L0 0) then f_MM_divisor L0 L2 n 1 L0 L2 else f_MM_divisor L0 L2 n 1 (-L0) L2 := by rw [f_MM_divisor]
theorem e_MM_divisor_1 (L0 : Int64) (L2 : Int64) (n : Nat) (L4 : Int64) (L6 : Int64) : f_MM_divisor L0 L2 (n + 1) 1 L4 L6 = if ((lg_cmp L6 0) : Int32) ≤ 0 then some (L4) else chk (¬ (L6 : Int64) = 0) (f_MM_divisor L0 L2 n 1 L6 (L4 - L4 / L6 * L6)) := by rw [f_MM_divisor]
theorem z_MM_divisor (L0 : Int64) (L2 : Int64) (h : Nat) (L4 : Int64) (L6 : Int64) : f_MM_divisor L0 L2 0 h L4 L6 = none := by rw [f_MM_divisor]
set_option maxHeartbeats 4000000 in
set_option maxRecDepth 100000 in
theorem b_MM_divisor_0 {p : Program} {l : Launch} {e : Env} {s : State} {m : MethodId} {args : Array Value} {below : List Frame} {meth : Method} {c : Code} {D : va_G} {tA : Nat → ClassId} {A : Nat → Prop} {L0 : Int64} {L2 : Int64} {out : Int64} (hx : p.tables.exec = Jvm.exec) (hb : c.code = prog_15_method_52_code) (hr : meth.sig.returnType = (Option.some Jvm.ClassFile.FieldType.long)) (hml : c.maxLocals = 10) (hh : zH s) (hg : ∀ w ∈ lw_R, w.before args s = true) (hown : s.vm.findClass "ChanceArenaModel" = some m.cls) (hlocks : meth.locks = false) (hK : va_K D vwCl (zT tA) s) (hA : ∀ q, s.heap.size ≤ q → A q) {n : Nat} (ih1 : ∀ (L4 : Int64) (L6 : Int64) (H : Heap) (locs : List Loc) (ls : Array Slot), f_MM_divisor L0 L2 n 1 L4 L6 = some out → va_P D vwCl [] H → va_D A [] → va_S A s.heap H locs → lv_has ls 10 [(0, .long L0), (2, .long L2), (4, .long L4), (6, .long L6)] → W p l e { frames := 0, cells := 0, slots := 0, locals := 0 } s m args below meth c H locs 0 0 (MQ below (va_Ql (fun (r9 : Int64) (u9 : Unit) => r9 = out) (zPost D A (fun (u9 : Unit) => [])) A) args s 0 0 A) (F0 m 17 ls [])) : ∀ (L4 : Int64) (L6 : Int64) (H : Heap) (locs : List Loc) (ls : Array Slot), f_MM_divisor L0 L2 (n + 1) 0 L4 L6 = some out → va_P D vwCl [] H → va_D A [] → va_S A s.heap H locs → lv_has ls 10 [(0, .long L0), (2, .long L2)] → W p l e { frames := 0, cells := 0, slots := 0, locals := 0 } s m args below meth c H locs 0 0 (MQ below (va_Ql (fun (r9 : Int64) (u9 : Unit) => r9 = out) (zPost D A (fun (u9 : Unit) => [])) A) args s 0 0 A) (F0 m 0 ls []) := by
  intro L4 L6   H locs ls hF  hP hD hS hl
  rw [e_MM_divisor_0] at hF
  refine lv_lload_n hx hb d_MM_divisor_0 rfl (lv_at hl 0 rfl) ?_
  refine lv_lconst (v := 0) hx hb d_MM_divisor_1 (by decide) ?_
  refine W.lcmp hx hb d_MM_divisor_2 ?_
  refine lv_if_ge (tgt := 11) hx hb d_MM_divisor_3 (by decide) (fun c9 => ?_) (fun c9 => ?_)
  · replace hF := ifp c9 hF
    refine lv_lload_n hx hb d_MM_divisor_11 rfl (lv_at hl 0 rfl) ?_
    refine lv_lstore (lv' := [(4, .long L0), (0, .long L0), (2, .long L2)]) hx hb d_MM_divisor_12 hl (by decide) rfl (fun ls hl => ?_)
    refine lv_lload_n hx hb d_MM_divisor_14 rfl (lv_at hl 2 rfl) ?_
    refine lv_lstore (lv' := [(6, .long L2), (4, .long L0), (0, .long L0), (2, .long L2)]) hx hb d_MM_divisor_15 hl (by decide) rfl (fun ls hl => ?_)
    exact ih1 L0 L2   _ _ _ hF  hP hD hS (lv_sub hl [2, 3, 1, 0] rfl)
  · replace hF := ifn c9 hF
    refine lv_lload_n hx hb d_MM_divisor_6 rfl (lv_at hl 0 rfl) ?_
    refine lv_lneg hx hb d_MM_divisor_7 ?_
    refine lv_goto (tgt := 12) hx hb d_MM_divisor_8 (by decide) ?_
    refine lv_lstore (lv' := [(4, .long (-L0)), (0, .long L0), (2, .long L2)]) hx hb d_MM_divisor_12 hl (by decide) rfl (fun ls hl => ?_)
    refine lv_lload_n hx hb d_MM_divisor_14 rfl (lv_at hl 2 rfl) ?_
    refine lv_lstore (lv' := [(6, .long L2), (4, .long (-L0)), (0, .long L0), (2, .long L2)]) hx hb d_MM_divisor_15 hl (by decide) rfl (fun ls hl => ?_)
    exact ih1 (-L0) L2   _ _ _ hF  hP hD hS (lv_sub hl [2, 3, 1, 0] rfl)
set_option maxHeartbeats 4000000 in
set_option maxRecDepth 100000 in
theorem b_MM_divisor_1 {p : Program} {l : Launch} {e : Env} {s : State} {m : MethodId} {args : Array Value} {below : List Frame} {meth : Method} {c : Code} {D : va_G} {tA : Nat → ClassId} {A : Nat → Prop} {L0 : Int64} {L2 : Int64} {out : Int64} (hx : p.tables.exec = Jvm.exec) (hb : c.code = prog_15_method_52_code) (hr : meth.sig.returnType = (Option.some Jvm.ClassFile.FieldType.long)) (hml : c.maxLocals = 10) (hh : zH s) (hg : ∀ w ∈ lw_R, w.before args s = true) (hown : s.vm.findClass "ChanceArenaModel" = some m.cls) (hlocks : meth.locks = false) (hK : va_K D vwCl (zT tA) s) (hA : ∀ q, s.heap.size ≤ q → A q) {n : Nat} (ih1 : ∀ (L4 : Int64) (L6 : Int64) (H : Heap) (locs : List Loc) (ls : Array Slot), f_MM_divisor L0 L2 n 1 L4 L6 = some out → va_P D vwCl [] H → va_D A [] → va_S A s.heap H locs → lv_has ls 10 [(0, .long L0), (2, .long L2), (4, .long L4), (6, .long L6)] → W p l e { frames := 0, cells := 0, slots := 0, locals := 0 } s m args below meth c H locs 0 0 (MQ below (va_Ql (fun (r9 : Int64) (u9 : Unit) => r9 = out) (zPost D A (fun (u9 : Unit) => [])) A) args s 0 0 A) (F0 m 17 ls [])) : ∀ (L4 : Int64) (L6 : Int64) (H : Heap) (locs : List Loc) (ls : Array Slot), f_MM_divisor L0 L2 (n + 1) 1 L4 L6 = some out → va_P D vwCl [] H → va_D A [] → va_S A s.heap H locs → lv_has ls 10 [(0, .long L0), (2, .long L2), (4, .long L4), (6, .long L6)] → W p l e { frames := 0, cells := 0, slots := 0, locals := 0 } s m args below meth c H locs 0 0 (MQ below (va_Ql (fun (r9 : Int64) (u9 : Unit) => r9 = out) (zPost D A (fun (u9 : Unit) => [])) A) args s 0 0 A) (F0 m 17 ls []) := by
  intro L4 L6   H locs ls hF  hP hD hS hl
  rw [e_MM_divisor_1] at hF
  refine lv_lload hx hb d_MM_divisor_17 (lv_at hl 3 rfl) ?_
  refine lv_lconst (v := 0) hx hb d_MM_divisor_19 (by decide) ?_
  refine W.lcmp hx hb d_MM_divisor_20 ?_
  refine lv_if_le (tgt := 42) hx hb d_MM_divisor_21 (by decide) (fun c9 => ?_) (fun c9 => ?_)
  · replace hF := ifp c9 hF
    refine lv_lload hx hb d_MM_divisor_42 (lv_at hl 2 rfl) ?_
    replace hF := Option.some.inj hF
    subst hF
    exact zLret (post := (fun (r9 : Int64) (u9 : Unit) => r9 = L4)) (W1 := (fun (u9 : Unit) => [])) (v := L4) hx hb hr hlocks hP hD hS () rfl rfl d_MM_divisor_44
  · replace hF := ifn c9 hF
    refine lv_lload hx hb d_MM_divisor_24 (lv_at hl 2 rfl) ?_
    refine lv_lload hx hb d_MM_divisor_26 (lv_at hl 3 rfl) ?_
    obtain ⟨h9, hF⟩ := chk_some hF
    refine lv_lrem hx hb d_MM_divisor_28 h9 ?_
    refine lv_lstore (lv' := [(8, .long (L4 - L4 / L6 * L6)), (0, .long L0), (2, .long L2), (4, .long L4), (6, .long L6)]) hx hb d_MM_divisor_29 hl (by decide) rfl (fun ls hl => ?_)
    refine lv_lload hx hb d_MM_divisor_31 (lv_at hl 4 rfl) ?_
    refine lv_lstore (lv' := [(4, .long L6), (8, .long (L4 - L4 / L6 * L6)), (0, .long L0), (2, .long L2), (6, .long L6)]) hx hb d_MM_divisor_33 hl (by decide) rfl (fun ls hl => ?_)
    refine lv_lload hx hb d_MM_divisor_35 (lv_at hl 1 rfl) ?_
    refine lv_lstore (lv' := [(6, .long (L4 - L4 / L6 * L6)), (4, .long L6), (8, .long (L4 - L4 / L6 * L6)), (0, .long L0), (2, .long L2)]) hx hb d_MM_divisor_37 hl (by decide) rfl (fun ls hl => ?_)
    refine lv_goto (tgt := 17) hx hb d_MM_divisor_39 (by decide) ?_
    exact ih1 L6 (L4 - L4 / L6 * L6)   _ _ _ hF  hP hD hS (lv_sub hl [3, 4, 1, 0] rfl)
set_option maxHeartbeats 4000000 in
set_option maxRecDepth 100000 in
theorem a_MM_divisor {p : Program} {l : Launch} {e : Env} {s : State} {m : MethodId} {args : Array Value} {below : List Frame} {meth : Method} {c : Code} {D : va_G} {tA : Nat → ClassId} {A : Nat → Prop} {L0 : Int64} {L2 : Int64} {out : Int64} (hx : p.tables.exec = Jvm.exec) (hb : c.code = prog_15_method_52_code) (hr : meth.sig.returnType = (Option.some Jvm.ClassFile.FieldType.long)) (hml : c.maxLocals = 10) (hh : zH s) (hg : ∀ w ∈ lw_R, w.before args s = true) (hown : s.vm.findClass "ChanceArenaModel" = some m.cls) (hlocks : meth.locks = false) (hK : va_K D vwCl (zT tA) s) (hA : ∀ q, s.heap.size ≤ q → A q) : ∀ n : Nat, (∀ (L4 : Int64) (L6 : Int64) (H : Heap) (locs : List Loc) (ls : Array Slot), f_MM_divisor L0 L2 n 0 L4 L6 = some out → va_P D vwCl [] H → va_D A [] → va_S A s.heap H locs → lv_has ls 10 [(0, .long L0), (2, .long L2)] → W p l e { frames := 0, cells := 0, slots := 0, locals := 0 } s m args below meth c H locs 0 0 (MQ below (va_Ql (fun (r9 : Int64) (u9 : Unit) => r9 = out) (zPost D A (fun (u9 : Unit) => [])) A) args s 0 0 A) (F0 m 0 ls [])) ∧ (∀ (L4 : Int64) (L6 : Int64) (H : Heap) (locs : List Loc) (ls : Array Slot), f_MM_divisor L0 L2 n 1 L4 L6 = some out → va_P D vwCl [] H → va_D A [] → va_S A s.heap H locs → lv_has ls 10 [(0, .long L0), (2, .long L2), (4, .long L4), (6, .long L6)] → W p l e { frames := 0, cells := 0, slots := 0, locals := 0 } s m args below meth c H locs 0 0 (MQ below (va_Ql (fun (r9 : Int64) (u9 : Unit) => r9 = out) (zPost D A (fun (u9 : Unit) => [])) A) args s 0 0 A) (F0 m 17 ls [])) := by
  intro n
  induction n with
  | zero => exact ⟨(fun _ _ _ _ _ hF => by rw [z_MM_divisor] at hF; cases hF), (fun _ _ _ _ _ hF => by rw [z_MM_divisor] at hF; cases hF)⟩
  | succ n ih =>
    obtain ⟨i0, i1⟩ := ih
    exact ⟨b_MM_divisor_0 hx hb hr hml hh hg hown hlocks hK hA i1, b_MM_divisor_1 hx hb hr hml hh hg hown hlocks hK hA i1⟩
set_option maxHeartbeats 4000000 in
set_option maxRecDepth 100000 in
theorem m_MM_divisor (l : Launch) (D : va_G) (tA : Nat → ClassId) (sz : Nat) (L0 : Int64) (L2 : Int64) (n : Nat) (out : Int64) (hF : f_MM_divisor L0 L2 n 0 0 0 = some out) : zMl l ({ cls := "ChanceArenaModel", name := "divisor", desc := "(JJ)J" } : Jvm.MethodName) (zW (Jvm.Cond.code ({ cls := "ChanceArenaModel", name := "divisor", desc := "(JJ)J" } : Jvm.MethodName) prog_15_method_52_code (10 : Nat) (Option.some Jvm.ClassFile.FieldType.long))) { frames := 0, cells := 0, slots := 0, locals := 0 } [.long L0, .long L2] D tA [] sz (fun (r9 : Int64) (u9 : Unit) => r9 = out) (fun (u9 : Unit) => []) 0 0 := by
  refine zOpen (l := l) (y := ({ cls := "ChanceArenaModel", name := "divisor", desc := "(JJ)J" } : Jvm.MethodName)) (ws := zW (Jvm.Cond.code ({ cls := "ChanceArenaModel", name := "divisor", desc := "(JJ)J" } : Jvm.MethodName) prog_15_method_52_code (10 : Nat) (Option.some Jvm.ClassFile.FieldType.long))) (rm := { frames := 0, cells := 0, slots := 0, locals := 0 }) (av := [.long L0, .long L2]) (D := D) (tA := tA) (W0 := []) (Wm := []) (sz := sz) (mc := 0) (ms := 0) (fun A => va_Ql (fun (r9 : Int64) (u9 : Unit) => r9 = out) (zPost D A (fun (u9 : Unit) => [])) A) (lv := [(0, .long L0), (2, .long L2)]) (by decide) rfl (Nat.le_of_ble_eq_true rfl) rfl ?_
  intro p e s m below meth c A ls hx hb hr hml hh hg hown hlocks hnm hK hA hP hD0 hAw hS hl
  have hD := zD hD0 hAw
  exact (a_MM_divisor hx hb hr hml hh hg hown hlocks hK hA n).1 0 0   _ _ _ hF  hP hD hS hl
def f_MM_pushFraction (h0_above_n : Nat) (h0_below_n : Nat) (L1 : Int64) (L3 : Int64) (l5 : Int32) (h0_fault : Int32) (h0_faultPlace : Int32) (h0_values : Int32) (h0_above_c : Nat → Int64) (h0_below_c : Nat → Int64) (n : Nat) : Option (Int32 × Int32 × Int32 × (Nat → Int64) × (Nat → Int64)) := Option.bind (f_MM_divisor L1 L3 n 0 0 0) (fun o1 => chk (¬ (o1 : Int64) = 0) (chk (¬ (o1 : Int64) = 0) (if (0 : Int32) ≤ (lg_cmp (L1 / o1) 1000000000) then Option.bind (f_MM_stop 6 l5 h0_fault h0_faultPlace) (fun o2 => Option.bind (f_MM_push h0_above_n h0_below_n (L1 / o1) (L3 / o1) h0_values h0_above_c h0_below_c) (fun o3 => some (o2.1, o2.2, o3.1, o3.2.1, o3.2.2))) else if ((lg_cmp (L1 / o1) (-1000000000)) : Int32) ≤ 0 then Option.bind (f_MM_stop 6 l5 h0_fault h0_faultPlace) (fun o4 => Option.bind (f_MM_push h0_above_n h0_below_n (L1 / o1) (L3 / o1) h0_values h0_above_c h0_below_c) (fun o5 => some (o4.1, o4.2, o5.1, o5.2.1, o5.2.2))) else if ((lg_cmp (L3 / o1) 1000000000) : Int32) < 0 then Option.bind (f_MM_push h0_above_n h0_below_n (L1 / o1) (L3 / o1) h0_values h0_above_c h0_below_c) (fun o6 => some (h0_fault, h0_faultPlace, o6.1, o6.2.1, o6.2.2)) else Option.bind (f_MM_stop 6 l5 h0_fault h0_faultPlace) (fun o7 => Option.bind (f_MM_push h0_above_n h0_below_n (L1 / o1) (L3 / o1) h0_values h0_above_c h0_below_c) (fun o8 => some (o7.1, o7.2, o8.1, o8.2.1, o8.2.2))))))
set_option maxHeartbeats 4000000 in
set_option maxRecDepth 100000 in
theorem b_MM_pushFraction_0 {p : Program} {l : Launch} {e : Env} {s : State} {m : MethodId} {args : Array Value} {below : List Frame} {meth : Method} {c : Code} {D : va_G} {tA : Nat → ClassId} {A : Nat → Prop} {h0 h0_above h0_below : Nat} {f0_h0 : List Value} {h0_above_n : Nat} {h0_below_n : Nat} {L1 : Int64} {L3 : Int64} {l5 : Int32} {h0_fault : Int32} {h0_faultPlace : Int32} {h0_values : Int32} {h0_above_c : Nat → Int64} {h0_below_c : Nat → Int64} {out : Int32 × Int32 × Int32 × (Nat → Int64) × (Nat → Int64)} (hx : p.tables.exec = Jvm.exec) (hb : c.code = prog_15_method_53_code) (hr : meth.sig.returnType = (Option.none : Option Jvm.ClassFile.FieldType)) (hml : c.maxLocals = 12) (hh : zH s) (hg : ∀ w ∈ lw_R, w.before args s = true) (hown : s.vm.findClass "ChanceArenaModel" = some m.cls) (hlocks : meth.locks = false) (hK : va_K D vwCl (zT tA) s) (hA : ∀ q, s.heap.size ≤ q → A q) {n : Nat}  : ∀ (f_h0 : List Value) (H : Heap) (locs : List Loc) (ls : Array Slot), f_MM_pushFraction h0_above_n h0_below_n L1 L3 l5 h0_fault h0_faultPlace h0_values h0_above_c h0_below_c n = some out → f_h0[21]? = some (.ref h0_above) → f_h0[22]? = some (.ref h0_below) → f_h0[16]? = some (.int h0_fault) → f_h0[17]? = some (.int h0_faultPlace) → f_h0[23]? = some (.int h0_values) → Fr [16, 17, 23] f0_h0 f_h0 → va_P D vwCl [(h0, .inr (13, f_h0)), (h0_above, .inl (tA 3, h0_above_n, .inr (.inl h0_above_c))), (h0_below, .inl (tA 3, h0_below_n, .inr (.inl h0_below_c)))] H → va_D A [(h0, .inr (13, f_h0)), (h0_above, .inl (tA 3, h0_above_n, .inr (.inl h0_above_c))), (h0_below, .inl (tA 3, h0_below_n, .inr (.inl h0_below_c)))] → va_S A s.heap H locs → lv_has ls 12 [(0, .ref h0), (1, .long L1), (3, .long L3), (5, .int l5)] → W p l e { frames := 1, cells := 0, slots := 0, locals := 29 } s m args below meth c H locs 0 0 (MQ below (va_Qv (fun (u9 : List Value) => Fr [16, 17, 23] f0_h0 u9 ∧ u9[16]? = some (.int out.1) ∧ u9[17]? = some (.int out.2.1) ∧ u9[23]? = some (.int out.2.2.1)) (zPost D A (fun (u9 : List Value) => [(h0, .inr (13, u9)), (h0_above, .inl (tA 3, h0_above_n, .inr (.inl out.2.2.2.1))), (h0_below, .inl (tA 3, h0_below_n, .inr (.inl out.2.2.2.2)))])) A) args s 0 0 A) (F0 m 0 ls []) := by
  intro   f_h0 H locs ls hF q_h0_above q_h0_below q_h0_fault q_h0_faultPlace q_h0_values r_h0 hP hD hS hl
  replace hF : ((Option.bind (f_MM_divisor L1 L3 n 0 0 0) (fun o1 => chk (¬ (o1 : Int64) = 0) (chk (¬ (o1 : Int64) = 0) (if (0 : Int32) ≤ (lg_cmp (L1 / o1) 1000000000) then Option.bind (f_MM_stop 6 l5 h0_fault h0_faultPlace) (fun o2 => Option.bind (f_MM_push h0_above_n h0_below_n (L1 / o1) (L3 / o1) h0_values h0_above_c h0_below_c) (fun o3 => some (o2.1, o2.2, o3.1, o3.2.1, o3.2.2))) else if ((lg_cmp (L1 / o1) (-1000000000)) : Int32) ≤ 0 then Option.bind (f_MM_stop 6 l5 h0_fault h0_faultPlace) (fun o4 => Option.bind (f_MM_push h0_above_n h0_below_n (L1 / o1) (L3 / o1) h0_values h0_above_c h0_below_c) (fun o5 => some (o4.1, o4.2, o5.1, o5.2.1, o5.2.2))) else if ((lg_cmp (L3 / o1) 1000000000) : Int32) < 0 then Option.bind (f_MM_push h0_above_n h0_below_n (L1 / o1) (L3 / o1) h0_values h0_above_c h0_below_c) (fun o6 => some (h0_fault, h0_faultPlace, o6.1, o6.2.1, o6.2.2)) else Option.bind (f_MM_stop 6 l5 h0_fault h0_faultPlace) (fun o7 => Option.bind (f_MM_push h0_above_n h0_below_n (L1 / o1) (L3 / o1) h0_values h0_above_c h0_below_c) (fun o8 => some (o7.1, o7.2, o8.1, o8.2.1, o8.2.2))))))) : Option (Int32 × Int32 × Int32 × (Nat → Int64) × (Nat → Int64))) = some out := hF
  refine lv_lload_n hx hb d_MM_pushFraction_0 rfl (lv_at hl 1 rfl) ?_
  refine lv_lload_n hx hb d_MM_pushFraction_1 rfl (lv_at hl 2 rfl) ?_
  obtain ⟨o1, h1, hF⟩ := bsome hF
  refine zCalll (wc := []) (wr := [(h0, .inr (13, f_h0)), (h0_above, .inl (tA 3, h0_above_n, .inr (.inl h0_above_c))), (h0_below, .inl (tA 3, h0_below_n, .inr (.inl h0_below_c)))]) hP hD hS hA [] [0, 1, 2] rfl rfl (by decide) (by decide) (va_runS (As := [.long L1, .long L3]) (rest := []) ⟨hx, hb, hml, hown, hg⟩ (m_MM_divisor l D tA _   L1 L3  n o1 h1) (zVS 2 hg k11_229 k11_230 k1_14 k11_231 rfl rfl (by decide +kernel) ⟨(Nat.le_of_ble_eq_true rfl), (Nat.le_of_ble_eq_true rfl)⟩) (zPreS hh hK hP hD [] (by decide) rfl) rfl rfl hl.1 rfl (lv_room (Nat.le_of_ble_eq_true rfl)) d_MM_pushFraction_2 ⟨(Nat.le_of_ble_eq_true rfl), (Nat.le_of_ble_eq_true rfl)⟩) (fun r1 u1 H1 locs1 e1 hP1 hD1 hS1 => ?_)
  clear hP hD hS
  refine W.cs (cells' := 0) (slots' := 0) rfl rfl ?_
  have x1 := e1
  rw [x1]
  replace hP1 : va_P D vwCl [(h0, .inr (13, f_h0)), (h0_above, .inl (tA 3, h0_above_n, .inr (.inl h0_above_c))), (h0_below, .inl (tA 3, h0_below_n, .inr (.inl h0_below_c)))] _ := hP1
  replace hD1 : va_D A [(h0, .inr (13, f_h0)), (h0_above, .inl (tA 3, h0_above_n, .inr (.inl h0_above_c))), (h0_below, .inl (tA 3, h0_below_n, .inr (.inl h0_below_c)))] := hD1
  refine lv_lstore (lv' := [(6, .long o1), (0, .ref h0), (1, .long L1), (3, .long L3), (5, .int l5)]) hx hb d_MM_pushFraction_5 hl (by decide) rfl (fun ls hl => ?_)
  refine lv_lload_n hx hb d_MM_pushFraction_7 rfl (lv_at hl 2 rfl) ?_
  refine lv_lload hx hb d_MM_pushFraction_8 (lv_at hl 0 rfl) ?_
  obtain ⟨h9, hF⟩ := chk_some hF
  refine lv_ldiv hx hb d_MM_pushFraction_10 h9 ?_
  refine lv_lstore (lv' := [(8, .long (L1 / o1)), (6, .long o1), (0, .ref h0), (1, .long L1), (3, .long L3), (5, .int l5)]) hx hb d_MM_pushFraction_11 hl (by decide) rfl (fun ls hl => ?_)
  refine lv_lload_n hx hb d_MM_pushFraction_13 rfl (lv_at hl 4 rfl) ?_
  refine lv_lload hx hb d_MM_pushFraction_14 (lv_at hl 1 rfl) ?_
  obtain ⟨h9, hF⟩ := chk_some hF
  refine lv_ldiv hx hb d_MM_pushFraction_16 h9 ?_
  refine lv_lstore (lv' := [(10, .long (L3 / o1)), (8, .long (L1 / o1)), (6, .long o1), (0, .ref h0), (1, .long L1), (3, .long L3), (5, .int l5)]) hx hb d_MM_pushFraction_17 hl (by decide) rfl (fun ls hl => ?_)
  refine lv_lload hx hb d_MM_pushFraction_19 (lv_at hl 1 rfl) ?_
  refine lv_ldc2 (v := 1000000000) hx hb hown (hg _ k11_232) d_MM_pushFraction_21 ?_
  refine W.lcmp hx hb d_MM_pushFraction_24 ?_
  refine lv_if_ge (tgt := 46) hx hb d_MM_pushFraction_25 (by decide) (fun c9 => ?_) (fun c9 => ?_)
  · replace hF := ifp c9 hF
    refine lv_aload_n hx hb d_MM_pushFraction_46 rfl (lv_at hl 3 rfl) ?_
    refine lv_bipush (v := 6) hx hb d_MM_pushFraction_47 (by decide) ?_
    refine lv_iload hx hb d_MM_pushFraction_49 (lv_at hl 6 rfl) ?_
    obtain ⟨o2, h2, hF⟩ := bsome hF
    refine zCallv (wc := [(h0, .inr (13, f_h0))]) (wr := [(h0_above, .inl (tA 3, h0_above_n, .inr (.inl h0_above_c))), (h0_below, .inl (tA 3, h0_below_n, .inr (.inl h0_below_c)))]) hP1 hD1 hS1 hA [0] [1, 2] rfl rfl (by decide) (by decide) (va_runV (As := [.int 6, .int l5]) (rest := []) ⟨hx, hb, hml, hown, hg⟩ (m_MM_stop l D tA _ h0 f_h0 6 l5 h0_fault h0_faultPlace q_h0_fault q_h0_faultPlace o2 h2) (zV 2 hg k11_105 k11_107 ks_MM_stop k1_14 k11_108 rfl rfl (by decide +kernel) ⟨(Nat.le_of_ble_eq_true rfl), (Nat.le_of_ble_eq_true rfl)⟩) (zPreV hh hK hP1 hD1 [0] (by decide) rfl (ci := 13) rfl 0 rfl) rfl rfl hl.1 rfl (lv_room (Nat.le_of_ble_eq_true rfl)) d_MM_pushFraction_51 ⟨(Nat.le_of_ble_eq_true rfl), (Nat.le_of_ble_eq_true rfl)⟩) (fun v2_h0 H2 locs2 e2 hP2 hD2 hS2 => ?_)
    clear hP1 hD1 hS1
    refine W.cs (cells' := 0) (slots' := 0) rfl rfl ?_
    obtain ⟨r2_h0, q2_h0_fault, q2_h0_faultPlace⟩ := e2
    replace hP2 : va_P D vwCl [(h0_above, .inl (tA 3, h0_above_n, .inr (.inl h0_above_c))), (h0_below, .inl (tA 3, h0_below_n, .inr (.inl h0_below_c))), (h0, .inr (13, v2_h0))] _ := hP2
    replace hD2 : va_D A [(h0_above, .inl (tA 3, h0_above_n, .inr (.inl h0_above_c))), (h0_below, .inl (tA 3, h0_below_n, .inr (.inl h0_below_c))), (h0, .inr (13, v2_h0))] := hD2
    refine lv_aload_n hx hb d_MM_pushFraction_54 rfl (lv_at hl 3 rfl) ?_
    refine lv_lload hx hb d_MM_pushFraction_55 (lv_at hl 1 rfl) ?_
    refine lv_lload hx hb d_MM_pushFraction_57 (lv_at hl 0 rfl) ?_
    obtain ⟨o3, h3, hF⟩ := bsome hF
    refine zCallv (wc := [(h0, .inr (13, v2_h0)), (h0_above, .inl (tA 3, h0_above_n, .inr (.inl h0_above_c))), (h0_below, .inl (tA 3, h0_below_n, .inr (.inl h0_below_c)))]) (wr := []) hP2 hD2 hS2 hA [2, 0, 1] [] rfl rfl (by decide) (by decide) (va_runV (As := [.long (L1 / o1), .long (L3 / o1)]) (rest := []) ⟨hx, hb, hml, hown, hg⟩ (m_MM_push l D tA _ h0 h0_above h0_below v2_h0 h0_above_n h0_below_n (L1 / o1) (L3 / o1) h0_values h0_above_c h0_below_c (Fr.get r2_h0 (by decide) q_h0_above) (Fr.get r2_h0 (by decide) q_h0_below) (Fr.get r2_h0 (by decide) q_h0_values) o3 h3) (zV 2 hg k11_197 k11_199 ks_MM_push k1_14 k11_200 rfl rfl (by decide +kernel) ⟨(Nat.le_of_ble_eq_true rfl), (Nat.le_of_ble_eq_true rfl)⟩) (zPreV hh hK hP2 hD2 [2, 0, 1] (by decide) rfl (ci := 13) rfl 0 rfl) rfl rfl hl.1 rfl (lv_room (Nat.le_of_ble_eq_true rfl)) d_MM_pushFraction_59 ⟨(Nat.le_of_ble_eq_true rfl), (Nat.le_of_ble_eq_true rfl)⟩) (fun v3_h0 H3 locs3 e3 hP3 hD3 hS3 => ?_)
    clear hP2 hD2 hS2
    refine W.cs (cells' := 0) (slots' := 0) rfl rfl ?_
    obtain ⟨r3_h0, q3_h0_values⟩ := e3
    replace hP3 : va_P D vwCl [(h0, .inr (13, v3_h0)), (h0_above, .inl (tA 3, h0_above_n, .inr (.inl o3.2.1))), (h0_below, .inl (tA 3, h0_below_n, .inr (.inl o3.2.2)))] _ := hP3
    replace hD3 : va_D A [(h0, .inr (13, v3_h0)), (h0_above, .inl (tA 3, h0_above_n, .inr (.inl o3.2.1))), (h0_below, .inl (tA 3, h0_below_n, .inr (.inl o3.2.2)))] := hD3
    replace hF := Option.some.inj hF
    subst hF
    exact zVret (post := (fun (u9 : List Value) => Fr [16, 17, 23] f0_h0 u9 ∧ u9[16]? = some (.int ((o2.1, o2.2, o3.1, o3.2.1, o3.2.2).1)) ∧ u9[17]? = some (.int ((o2.1, o2.2, o3.1, o3.2.1, o3.2.2).2.1)) ∧ u9[23]? = some (.int ((o2.1, o2.2, o3.1, o3.2.1, o3.2.2).2.2.1)))) (W1 := (fun (u9 : List Value) => [(h0, .inr (13, u9)), (h0_above, .inl (tA 3, h0_above_n, .inr (.inl ((o2.1, o2.2, o3.1, o3.2.1, o3.2.2).2.2.2.1)))), (h0_below, .inl (tA 3, h0_below_n, .inr (.inl ((o2.1, o2.2, o3.1, o3.2.1, o3.2.2).2.2.2.2))))])) hx hb hr hlocks hP3 hD3 hS3 (v3_h0) ⟨(Fr.trans (Fr.trans r_h0 (Fr.sub r2_h0 (by decide))) (Fr.sub r3_h0 (by decide))), (Fr.get r3_h0 (by decide) q2_h0_fault), (Fr.get r3_h0 (by decide) q2_h0_faultPlace), q3_h0_values⟩ rfl d_MM_pushFraction_62
  · replace hF := ifn c9 hF
    refine lv_lload hx hb d_MM_pushFraction_28 (lv_at hl 1 rfl) ?_
    refine lv_ldc2 (v := (-1000000000)) hx hb hown (hg _ k11_233) d_MM_pushFraction_30 ?_
    refine W.lcmp hx hb d_MM_pushFraction_33 ?_
    refine lv_if_le (tgt := 46) hx hb d_MM_pushFraction_34 (by decide) (fun c9 => ?_) (fun c9 => ?_)
    · replace hF := ifp c9 hF
      refine lv_aload_n hx hb d_MM_pushFraction_46 rfl (lv_at hl 3 rfl) ?_
      refine lv_bipush (v := 6) hx hb d_MM_pushFraction_47 (by decide) ?_
      refine lv_iload hx hb d_MM_pushFraction_49 (lv_at hl 6 rfl) ?_
      obtain ⟨o4, h4, hF⟩ := bsome hF
      refine zCallv (wc := [(h0, .inr (13, f_h0))]) (wr := [(h0_above, .inl (tA 3, h0_above_n, .inr (.inl h0_above_c))), (h0_below, .inl (tA 3, h0_below_n, .inr (.inl h0_below_c)))]) hP1 hD1 hS1 hA [0] [1, 2] rfl rfl (by decide) (by decide) (va_runV (As := [.int 6, .int l5]) (rest := []) ⟨hx, hb, hml, hown, hg⟩ (m_MM_stop l D tA _ h0 f_h0 6 l5 h0_fault h0_faultPlace q_h0_fault q_h0_faultPlace o4 h4) (zV 2 hg k11_105 k11_107 ks_MM_stop k1_14 k11_108 rfl rfl (by decide +kernel) ⟨(Nat.le_of_ble_eq_true rfl), (Nat.le_of_ble_eq_true rfl)⟩) (zPreV hh hK hP1 hD1 [0] (by decide) rfl (ci := 13) rfl 0 rfl) rfl rfl hl.1 rfl (lv_room (Nat.le_of_ble_eq_true rfl)) d_MM_pushFraction_51 ⟨(Nat.le_of_ble_eq_true rfl), (Nat.le_of_ble_eq_true rfl)⟩) (fun v4_h0 H2 locs2 e4 hP2 hD2 hS2 => ?_)
      clear hP1 hD1 hS1
      refine W.cs (cells' := 0) (slots' := 0) rfl rfl ?_
      obtain ⟨r4_h0, q4_h0_fault, q4_h0_faultPlace⟩ := e4
      replace hP2 : va_P D vwCl [(h0_above, .inl (tA 3, h0_above_n, .inr (.inl h0_above_c))), (h0_below, .inl (tA 3, h0_below_n, .inr (.inl h0_below_c))), (h0, .inr (13, v4_h0))] _ := hP2
      replace hD2 : va_D A [(h0_above, .inl (tA 3, h0_above_n, .inr (.inl h0_above_c))), (h0_below, .inl (tA 3, h0_below_n, .inr (.inl h0_below_c))), (h0, .inr (13, v4_h0))] := hD2
      refine lv_aload_n hx hb d_MM_pushFraction_54 rfl (lv_at hl 3 rfl) ?_
      refine lv_lload hx hb d_MM_pushFraction_55 (lv_at hl 1 rfl) ?_
      refine lv_lload hx hb d_MM_pushFraction_57 (lv_at hl 0 rfl) ?_
      obtain ⟨o5, h5, hF⟩ := bsome hF
      refine zCallv (wc := [(h0, .inr (13, v4_h0)), (h0_above, .inl (tA 3, h0_above_n, .inr (.inl h0_above_c))), (h0_below, .inl (tA 3, h0_below_n, .inr (.inl h0_below_c)))]) (wr := []) hP2 hD2 hS2 hA [2, 0, 1] [] rfl rfl (by decide) (by decide) (va_runV (As := [.long (L1 / o1), .long (L3 / o1)]) (rest := []) ⟨hx, hb, hml, hown, hg⟩ (m_MM_push l D tA _ h0 h0_above h0_below v4_h0 h0_above_n h0_below_n (L1 / o1) (L3 / o1) h0_values h0_above_c h0_below_c (Fr.get r4_h0 (by decide) q_h0_above) (Fr.get r4_h0 (by decide) q_h0_below) (Fr.get r4_h0 (by decide) q_h0_values) o5 h5) (zV 2 hg k11_197 k11_199 ks_MM_push k1_14 k11_200 rfl rfl (by decide +kernel) ⟨(Nat.le_of_ble_eq_true rfl), (Nat.le_of_ble_eq_true rfl)⟩) (zPreV hh hK hP2 hD2 [2, 0, 1] (by decide) rfl (ci := 13) rfl 0 rfl) rfl rfl hl.1 rfl (lv_room (Nat.le_of_ble_eq_true rfl)) d_MM_pushFraction_59 ⟨(Nat.le_of_ble_eq_true rfl), (Nat.le_of_ble_eq_true rfl)⟩) (fun v5_h0 H3 locs3 e5 hP3 hD3 hS3 => ?_)
      clear hP2 hD2 hS2
      refine W.cs (cells' := 0) (slots' := 0) rfl rfl ?_
      obtain ⟨r5_h0, q5_h0_values⟩ := e5
      replace hP3 : va_P D vwCl [(h0, .inr (13, v5_h0)), (h0_above, .inl (tA 3, h0_above_n, .inr (.inl o5.2.1))), (h0_below, .inl (tA 3, h0_below_n, .inr (.inl o5.2.2)))] _ := hP3
      replace hD3 : va_D A [(h0, .inr (13, v5_h0)), (h0_above, .inl (tA 3, h0_above_n, .inr (.inl o5.2.1))), (h0_below, .inl (tA 3, h0_below_n, .inr (.inl o5.2.2)))] := hD3
      replace hF := Option.some.inj hF
      subst hF
      exact zVret (post := (fun (u9 : List Value) => Fr [16, 17, 23] f0_h0 u9 ∧ u9[16]? = some (.int ((o4.1, o4.2, o5.1, o5.2.1, o5.2.2).1)) ∧ u9[17]? = some (.int ((o4.1, o4.2, o5.1, o5.2.1, o5.2.2).2.1)) ∧ u9[23]? = some (.int ((o4.1, o4.2, o5.1, o5.2.1, o5.2.2).2.2.1)))) (W1 := (fun (u9 : List Value) => [(h0, .inr (13, u9)), (h0_above, .inl (tA 3, h0_above_n, .inr (.inl ((o4.1, o4.2, o5.1, o5.2.1, o5.2.2).2.2.2.1)))), (h0_below, .inl (tA 3, h0_below_n, .inr (.inl ((o4.1, o4.2, o5.1, o5.2.1, o5.2.2).2.2.2.2))))])) hx hb hr hlocks hP3 hD3 hS3 (v5_h0) ⟨(Fr.trans (Fr.trans r_h0 (Fr.sub r4_h0 (by decide))) (Fr.sub r5_h0 (by decide))), (Fr.get r5_h0 (by decide) q4_h0_fault), (Fr.get r5_h0 (by decide) q4_h0_faultPlace), q5_h0_values⟩ rfl d_MM_pushFraction_62
    · replace hF := ifn c9 hF
      refine lv_lload hx hb d_MM_pushFraction_37 (lv_at hl 0 rfl) ?_
      refine lv_ldc2 (v := 1000000000) hx hb hown (hg _ k11_232) d_MM_pushFraction_39 ?_
      refine W.lcmp hx hb d_MM_pushFraction_42 ?_
      refine lv_if_lt (tgt := 54) hx hb d_MM_pushFraction_43 (by decide) (fun c9 => ?_) (fun c9 => ?_)
      · replace hF := ifp c9 hF
        refine lv_aload_n hx hb d_MM_pushFraction_54 rfl (lv_at hl 3 rfl) ?_
        refine lv_lload hx hb d_MM_pushFraction_55 (lv_at hl 1 rfl) ?_
        refine lv_lload hx hb d_MM_pushFraction_57 (lv_at hl 0 rfl) ?_
        obtain ⟨o6, h6, hF⟩ := bsome hF
        refine zCallv (wc := [(h0, .inr (13, f_h0)), (h0_above, .inl (tA 3, h0_above_n, .inr (.inl h0_above_c))), (h0_below, .inl (tA 3, h0_below_n, .inr (.inl h0_below_c)))]) (wr := []) hP1 hD1 hS1 hA [0, 1, 2] [] rfl rfl (by decide) (by decide) (va_runV (As := [.long (L1 / o1), .long (L3 / o1)]) (rest := []) ⟨hx, hb, hml, hown, hg⟩ (m_MM_push l D tA _ h0 h0_above h0_below f_h0 h0_above_n h0_below_n (L1 / o1) (L3 / o1) h0_values h0_above_c h0_below_c q_h0_above q_h0_below q_h0_values o6 h6) (zV 2 hg k11_197 k11_199 ks_MM_push k1_14 k11_200 rfl rfl (by decide +kernel) ⟨(Nat.le_of_ble_eq_true rfl), (Nat.le_of_ble_eq_true rfl)⟩) (zPreV hh hK hP1 hD1 [0, 1, 2] (by decide) rfl (ci := 13) rfl 0 rfl) rfl rfl hl.1 rfl (lv_room (Nat.le_of_ble_eq_true rfl)) d_MM_pushFraction_59 ⟨(Nat.le_of_ble_eq_true rfl), (Nat.le_of_ble_eq_true rfl)⟩) (fun v6_h0 H2 locs2 e6 hP2 hD2 hS2 => ?_)
        clear hP1 hD1 hS1
        refine W.cs (cells' := 0) (slots' := 0) rfl rfl ?_
        obtain ⟨r6_h0, q6_h0_values⟩ := e6
        replace hP2 : va_P D vwCl [(h0, .inr (13, v6_h0)), (h0_above, .inl (tA 3, h0_above_n, .inr (.inl o6.2.1))), (h0_below, .inl (tA 3, h0_below_n, .inr (.inl o6.2.2)))] _ := hP2
        replace hD2 : va_D A [(h0, .inr (13, v6_h0)), (h0_above, .inl (tA 3, h0_above_n, .inr (.inl o6.2.1))), (h0_below, .inl (tA 3, h0_below_n, .inr (.inl o6.2.2)))] := hD2
        replace hF := Option.some.inj hF
        subst hF
        exact zVret (post := (fun (u9 : List Value) => Fr [16, 17, 23] f0_h0 u9 ∧ u9[16]? = some (.int ((h0_fault, h0_faultPlace, o6.1, o6.2.1, o6.2.2).1)) ∧ u9[17]? = some (.int ((h0_fault, h0_faultPlace, o6.1, o6.2.1, o6.2.2).2.1)) ∧ u9[23]? = some (.int ((h0_fault, h0_faultPlace, o6.1, o6.2.1, o6.2.2).2.2.1)))) (W1 := (fun (u9 : List Value) => [(h0, .inr (13, u9)), (h0_above, .inl (tA 3, h0_above_n, .inr (.inl ((h0_fault, h0_faultPlace, o6.1, o6.2.1, o6.2.2).2.2.2.1)))), (h0_below, .inl (tA 3, h0_below_n, .inr (.inl ((h0_fault, h0_faultPlace, o6.1, o6.2.1, o6.2.2).2.2.2.2))))])) hx hb hr hlocks hP2 hD2 hS2 (v6_h0) ⟨(Fr.trans r_h0 (Fr.sub r6_h0 (by decide))), (Fr.get r6_h0 (by decide) q_h0_fault), (Fr.get r6_h0 (by decide) q_h0_faultPlace), q6_h0_values⟩ rfl d_MM_pushFraction_62
      · replace hF := ifn c9 hF
        refine lv_aload_n hx hb d_MM_pushFraction_46 rfl (lv_at hl 3 rfl) ?_
        refine lv_bipush (v := 6) hx hb d_MM_pushFraction_47 (by decide) ?_
        refine lv_iload hx hb d_MM_pushFraction_49 (lv_at hl 6 rfl) ?_
        obtain ⟨o7, h7, hF⟩ := bsome hF
        refine zCallv (wc := [(h0, .inr (13, f_h0))]) (wr := [(h0_above, .inl (tA 3, h0_above_n, .inr (.inl h0_above_c))), (h0_below, .inl (tA 3, h0_below_n, .inr (.inl h0_below_c)))]) hP1 hD1 hS1 hA [0] [1, 2] rfl rfl (by decide) (by decide) (va_runV (As := [.int 6, .int l5]) (rest := []) ⟨hx, hb, hml, hown, hg⟩ (m_MM_stop l D tA _ h0 f_h0 6 l5 h0_fault h0_faultPlace q_h0_fault q_h0_faultPlace o7 h7) (zV 2 hg k11_105 k11_107 ks_MM_stop k1_14 k11_108 rfl rfl (by decide +kernel) ⟨(Nat.le_of_ble_eq_true rfl), (Nat.le_of_ble_eq_true rfl)⟩) (zPreV hh hK hP1 hD1 [0] (by decide) rfl (ci := 13) rfl 0 rfl) rfl rfl hl.1 rfl (lv_room (Nat.le_of_ble_eq_true rfl)) d_MM_pushFraction_51 ⟨(Nat.le_of_ble_eq_true rfl), (Nat.le_of_ble_eq_true rfl)⟩) (fun v7_h0 H2 locs2 e7 hP2 hD2 hS2 => ?_)
        clear hP1 hD1 hS1
        refine W.cs (cells' := 0) (slots' := 0) rfl rfl ?_
        obtain ⟨r7_h0, q7_h0_fault, q7_h0_faultPlace⟩ := e7
        replace hP2 : va_P D vwCl [(h0_above, .inl (tA 3, h0_above_n, .inr (.inl h0_above_c))), (h0_below, .inl (tA 3, h0_below_n, .inr (.inl h0_below_c))), (h0, .inr (13, v7_h0))] _ := hP2
        replace hD2 : va_D A [(h0_above, .inl (tA 3, h0_above_n, .inr (.inl h0_above_c))), (h0_below, .inl (tA 3, h0_below_n, .inr (.inl h0_below_c))), (h0, .inr (13, v7_h0))] := hD2
        refine lv_aload_n hx hb d_MM_pushFraction_54 rfl (lv_at hl 3 rfl) ?_
        refine lv_lload hx hb d_MM_pushFraction_55 (lv_at hl 1 rfl) ?_
        refine lv_lload hx hb d_MM_pushFraction_57 (lv_at hl 0 rfl) ?_
        obtain ⟨o8, h8, hF⟩ := bsome hF
        refine zCallv (wc := [(h0, .inr (13, v7_h0)), (h0_above, .inl (tA 3, h0_above_n, .inr (.inl h0_above_c))), (h0_below, .inl (tA 3, h0_below_n, .inr (.inl h0_below_c)))]) (wr := []) hP2 hD2 hS2 hA [2, 0, 1] [] rfl rfl (by decide) (by decide) (va_runV (As := [.long (L1 / o1), .long (L3 / o1)]) (rest := []) ⟨hx, hb, hml, hown, hg⟩ (m_MM_push l D tA _ h0 h0_above h0_below v7_h0 h0_above_n h0_below_n (L1 / o1) (L3 / o1) h0_values h0_above_c h0_below_c (Fr.get r7_h0 (by decide) q_h0_above) (Fr.get r7_h0 (by decide) q_h0_below) (Fr.get r7_h0 (by decide) q_h0_values) o8 h8) (zV 2 hg k11_197 k11_199 ks_MM_push k1_14 k11_200 rfl rfl (by decide +kernel) ⟨(Nat.le_of_ble_eq_true rfl), (Nat.le_of_ble_eq_true rfl)⟩) (zPreV hh hK hP2 hD2 [2, 0, 1] (by decide) rfl (ci := 13) rfl 0 rfl) rfl rfl hl.1 rfl (lv_room (Nat.le_of_ble_eq_true rfl)) d_MM_pushFraction_59 ⟨(Nat.le_of_ble_eq_true rfl), (Nat.le_of_ble_eq_true rfl)⟩) (fun v8_h0 H3 locs3 e8 hP3 hD3 hS3 => ?_)
        clear hP2 hD2 hS2
        refine W.cs (cells' := 0) (slots' := 0) rfl rfl ?_
        obtain ⟨r8_h0, q8_h0_values⟩ := e8
        replace hP3 : va_P D vwCl [(h0, .inr (13, v8_h0)), (h0_above, .inl (tA 3, h0_above_n, .inr (.inl o8.2.1))), (h0_below, .inl (tA 3, h0_below_n, .inr (.inl o8.2.2)))] _ := hP3
        replace hD3 : va_D A [(h0, .inr (13, v8_h0)), (h0_above, .inl (tA 3, h0_above_n, .inr (.inl o8.2.1))), (h0_below, .inl (tA 3, h0_below_n, .inr (.inl o8.2.2)))] := hD3
        replace hF := Option.some.inj hF
        subst hF
        exact zVret (post := (fun (u9 : List Value) => Fr [16, 17, 23] f0_h0 u9 ∧ u9[16]? = some (.int ((o7.1, o7.2, o8.1, o8.2.1, o8.2.2).1)) ∧ u9[17]? = some (.int ((o7.1, o7.2, o8.1, o8.2.1, o8.2.2).2.1)) ∧ u9[23]? = some (.int ((o7.1, o7.2, o8.1, o8.2.1, o8.2.2).2.2.1)))) (W1 := (fun (u9 : List Value) => [(h0, .inr (13, u9)), (h0_above, .inl (tA 3, h0_above_n, .inr (.inl ((o7.1, o7.2, o8.1, o8.2.1, o8.2.2).2.2.2.1)))), (h0_below, .inl (tA 3, h0_below_n, .inr (.inl ((o7.1, o7.2, o8.1, o8.2.1, o8.2.2).2.2.2.2))))])) hx hb hr hlocks hP3 hD3 hS3 (v8_h0) ⟨(Fr.trans (Fr.trans r_h0 (Fr.sub r7_h0 (by decide))) (Fr.sub r8_h0 (by decide))), (Fr.get r8_h0 (by decide) q7_h0_fault), (Fr.get r8_h0 (by decide) q7_h0_faultPlace), q8_h0_values⟩ rfl d_MM_pushFraction_62
set_option maxHeartbeats 4000000 in
set_option maxRecDepth 100000 in
theorem m_MM_pushFraction (l : Launch) (D : va_G) (tA : Nat → ClassId) (sz : Nat) (h0 h0_above h0_below : Nat) (f0_h0 : List Value) (h0_above_n : Nat) (h0_below_n : Nat) (L1 : Int64) (L3 : Int64) (l5 : Int32) (h0_fault : Int32) (h0_faultPlace : Int32) (h0_values : Int32) (h0_above_c : Nat → Int64) (h0_below_c : Nat → Int64) (q_h0_above : f0_h0[21]? = some (.ref h0_above)) (q_h0_below : f0_h0[22]? = some (.ref h0_below)) (q_h0_fault : f0_h0[16]? = some (.int h0_fault)) (q_h0_faultPlace : f0_h0[17]? = some (.int h0_faultPlace)) (q_h0_values : f0_h0[23]? = some (.int h0_values)) (n : Nat) (out : Int32 × Int32 × Int32 × (Nat → Int64) × (Nat → Int64)) (hF : f_MM_pushFraction h0_above_n h0_below_n L1 L3 l5 h0_fault h0_faultPlace h0_values h0_above_c h0_below_c n = some out) : zMv l ({ cls := "ChanceArenaModel", name := "pushFraction", desc := "(JJI)V" } : Jvm.MethodName) (zW (Jvm.Cond.code ({ cls := "ChanceArenaModel", name := "pushFraction", desc := "(JJI)V" } : Jvm.MethodName) prog_15_method_53_code (12 : Nat) (Option.none : Option Jvm.ClassFile.FieldType))) { frames := 1, cells := 0, slots := 0, locals := 29 } [.ref h0, .long L1, .long L3, .int l5] D tA [(h0, .inr (13, f0_h0)), (h0_above, .inl (tA 3, h0_above_n, .inr (.inl h0_above_c))), (h0_below, .inl (tA 3, h0_below_n, .inr (.inl h0_below_c)))] sz (fun (u9 : List Value) => Fr [16, 17, 23] f0_h0 u9 ∧ u9[16]? = some (.int out.1) ∧ u9[17]? = some (.int out.2.1) ∧ u9[23]? = some (.int out.2.2.1)) (fun (u9 : List Value) => [(h0, .inr (13, u9)), (h0_above, .inl (tA 3, h0_above_n, .inr (.inl out.2.2.2.1))), (h0_below, .inl (tA 3, h0_below_n, .inr (.inl out.2.2.2.2)))]) 0 0 := by
  refine zOpen (l := l) (y := ({ cls := "ChanceArenaModel", name := "pushFraction", desc := "(JJI)V" } : Jvm.MethodName)) (ws := zW (Jvm.Cond.code ({ cls := "ChanceArenaModel", name := "pushFraction", desc := "(JJI)V" } : Jvm.MethodName) prog_15_method_53_code (12 : Nat) (Option.none : Option Jvm.ClassFile.FieldType))) (rm := { frames := 1, cells := 0, slots := 0, locals := 29 }) (av := [.ref h0, .long L1, .long L3, .int l5]) (D := D) (tA := tA) (W0 := [(h0, .inr (13, f0_h0)), (h0_above, .inl (tA 3, h0_above_n, .inr (.inl h0_above_c))), (h0_below, .inl (tA 3, h0_below_n, .inr (.inl h0_below_c)))]) (Wm := [(h0, .inr (13, f0_h0)), (h0_above, .inl (tA 3, h0_above_n, .inr (.inl h0_above_c))), (h0_below, .inl (tA 3, h0_below_n, .inr (.inl h0_below_c)))]) (sz := sz) (mc := 0) (ms := 0) (fun A => va_Qv (fun (u9 : List Value) => Fr [16, 17, 23] f0_h0 u9 ∧ u9[16]? = some (.int out.1) ∧ u9[17]? = some (.int out.2.1) ∧ u9[23]? = some (.int out.2.2.1)) (zPost D A (fun (u9 : List Value) => [(h0, .inr (13, u9)), (h0_above, .inl (tA 3, h0_above_n, .inr (.inl out.2.2.2.1))), (h0_below, .inl (tA 3, h0_below_n, .inr (.inl out.2.2.2.2)))])) A) (lv := [(0, .ref h0), (1, .long L1), (3, .long L3), (5, .int l5)]) (by decide) rfl (Nat.le_of_ble_eq_true rfl) rfl ?_
  intro p e s m below meth c A ls hx hb hr hml hh hg hown hlocks hnm hK hA hP hD0 hAw hS hl
  have hD := zD hD0 hAw
  exact b_MM_pushFraction_0 hx hb hr hml hh hg hown hlocks hK hA   f0_h0 _ _ _ hF q_h0_above q_h0_below q_h0_fault q_h0_faultPlace q_h0_values Fr.rfl hP hD hS hl
