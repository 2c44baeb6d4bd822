theorem k4_117 : (Jvm.Cond.code ({ cls := "ChanceArena$Words", name := "longSign", desc := "(CC)I" } : Jvm.MethodName) prog_13_method_11_code (2 : Nat) (Option.some Jvm.ClassFile.FieldType.int)) ∈ lw_R := zR (zk_4 _ (List.mem_of_getElem? (i := 117) (by decide +kernel))) rfl
theorem k4_120 : (Jvm.Cond.code ({ cls := "ChanceArena$Words", name := "shortSign", desc := "(C)I" } : Jvm.MethodName) prog_13_method_12_code (1 : Nat) (Option.some Jvm.ClassFile.FieldType.int)) ∈ lw_R := zR (zk_4 _ (List.mem_of_getElem? (i := 120) (by decide +kernel))) rfl
theorem d_Wo_longSign_0 : decode prog_13_method_11_code 0 = .ok (.iload_n 0, 1) := by decide +kernel
theorem d_Wo_longSign_1 : decode prog_13_method_11_code 1 = .ok (.bipush 46, 2) := by decide +kernel
theorem d_Wo_longSign_3 : decode prog_13_method_11_code 3 = .ok (.if_icmp .ne 12, 3) := by decide +kernel
theorem d_Wo_longSign_15 : decode prog_13_method_11_code 15 = .ok (.iload_n 0, 1) := by decide +kernel
theorem d_Wo_longSign_16 : decode prog_13_method_11_code 16 = .ok (.bipush 45, 2) := by decide +kernel
theorem d_Wo_longSign_18 : decode prog_13_method_11_code 18 = .ok (.if_icmp .ne 12, 3) := by decide +kernel
theorem d_Wo_longSign_30 : decode prog_13_method_11_code 30 = .ok (.iload_n 1, 1) := by decide +kernel
theorem d_Wo_longSign_31 : decode prog_13_method_11_code 31 = .ok (.bipush 61, 2) := by decide +kernel
theorem d_Wo_longSign_33 : decode prog_13_method_11_code 33 = .ok (.if_icmp .eq 5, 3) := by decide +kernel
theorem d_Wo_longSign_38 : decode prog_13_method_11_code 38 = .ok (.iload_n 0, 1) := by decide +kernel
theorem d_Wo_longSign_39 : decode prog_13_method_11_code 39 = .ok (.bipush 33, 2) := by decide +kernel
theorem d_Wo_longSign_41 : decode prog_13_method_11_code 41 = .ok (.if_icmp .ne 8, 3) := by decide +kernel
theorem d_Wo_longSign_49 : decode prog_13_method_11_code 49 = .ok (.iload_n 0, 1) := by decide +kernel
theorem d_Wo_longSign_50 : decode prog_13_method_11_code 50 = .ok (.bipush 60, 2) := by decide +kernel
theorem d_Wo_longSign_52 : decode prog_13_method_11_code 52 = .ok (.if_icmp .ne 8, 3) := by decide +kernel
theorem d_Wo_longSign_60 : decode prog_13_method_11_code 60 = .ok (.iload_n 0, 1) := by decide +kernel
theorem d_Wo_longSign_61 : decode prog_13_method_11_code 61 = .ok (.bipush 62, 2) := by decide +kernel
theorem d_Wo_longSign_63 : decode prog_13_method_11_code 63 = .ok (.if_icmp .ne 8, 3) := by decide +kernel
theorem d_Wo_longSign_71 : decode prog_13_method_11_code 71 = .ok (.iconst 1, 1) := by decide +kernel
theorem d_Wo_longSign_72 : decode prog_13_method_11_code 72 = .ok (.ireturn, 1) := by decide +kernel
theorem d_Wo_longSign_66 : decode prog_13_method_11_code 66 = .ok (.bipush 21, 2) := by decide +kernel
theorem d_Wo_longSign_68 : decode prog_13_method_11_code 68 = .ok (.goto 4, 3) := by decide +kernel
theorem d_Wo_longSign_55 : decode prog_13_method_11_code 55 = .ok (.bipush 20, 2) := by decide +kernel
theorem d_Wo_longSign_57 : decode prog_13_method_11_code 57 = .ok (.goto 15, 3) := by decide +kernel
theorem d_Wo_longSign_44 : decode prog_13_method_11_code 44 = .ok (.bipush 19, 2) := by decide +kernel
theorem d_Wo_longSign_46 : decode prog_13_method_11_code 46 = .ok (.goto 26, 3) := by decide +kernel
theorem d_Wo_longSign_36 : decode prog_13_method_11_code 36 = .ok (.iconst 1, 1) := by decide +kernel
theorem d_Wo_longSign_37 : decode prog_13_method_11_code 37 = .ok (.ireturn, 1) := by decide +kernel
theorem d_Wo_longSign_21 : decode prog_13_method_11_code 21 = .ok (.iload_n 1, 1) := by decide +kernel
theorem d_Wo_longSign_22 : decode prog_13_method_11_code 22 = .ok (.bipush 62, 2) := by decide +kernel
theorem d_Wo_longSign_24 : decode prog_13_method_11_code 24 = .ok (.if_icmp .ne 6, 3) := by decide +kernel
theorem d_Wo_longSign_27 : decode prog_13_method_11_code 27 = .ok (.bipush 18, 2) := by decide +kernel
theorem d_Wo_longSign_29 : decode prog_13_method_11_code 29 = .ok (.ireturn, 1) := by decide +kernel
theorem d_Wo_longSign_6 : decode prog_13_method_11_code 6 = .ok (.iload_n 1, 1) := by decide +kernel
theorem d_Wo_longSign_7 : decode prog_13_method_11_code 7 = .ok (.bipush 46, 2) := by decide +kernel
theorem d_Wo_longSign_9 : decode prog_13_method_11_code 9 = .ok (.if_icmp .ne 6, 3) := by decide +kernel
theorem d_Wo_longSign_12 : decode prog_13_method_11_code 12 = .ok (.bipush 17, 2) := by decide +kernel
theorem d_Wo_longSign_14 : decode prog_13_method_11_code 14 = .ok (.ireturn, 1) := by decide +kernel
theorem d_Wo_shortSign_0 : decode prog_13_method_12_code 0 = .ok (.iload_n 0, 1) := by decide +kernel
theorem d_Wo_shortSign_1 : decode prog_13_method_12_code 1 = .ok (.lookupswitch 209 #[(33, 185), (37, 176), (38, 179), (39, 206), (40, 200), (41, 203), (42, 170), (43, 164), (44, 197), (45, 167), (47, 173), (58, 191), (59, 194), (60, 155), (61, 161), (62, 158), (63, 188), (124, 182)], 155) := by decide +kernel
theorem d_Wo_shortSign_186 : decode prog_13_method_12_code 186 = .ok (.bipush 32, 2) := by decide +kernel
theorem d_Wo_shortSign_188 : decode prog_13_method_12_code 188 = .ok (.ireturn, 1) := by decide +kernel
theorem d_Wo_shortSign_177 : decode prog_13_method_12_code 177 = .ok (.bipush 29, 2) := by decide +kernel
theorem d_Wo_shortSign_179 : decode prog_13_method_12_code 179 = .ok (.ireturn, 1) := by decide +kernel
theorem d_Wo_shortSign_180 : decode prog_13_method_12_code 180 = .ok (.bipush 30, 2) := by decide +kernel
theorem d_Wo_shortSign_182 : decode prog_13_method_12_code 182 = .ok (.ireturn, 1) := by decide +kernel
theorem d_Wo_shortSign_207 : decode prog_13_method_12_code 207 = .ok (.bipush 39, 2) := by decide +kernel
theorem d_Wo_shortSign_209 : decode prog_13_method_12_code 209 = .ok (.ireturn, 1) := by decide +kernel
theorem d_Wo_shortSign_201 : decode prog_13_method_12_code 201 = .ok (.bipush 37, 2) := by decide +kernel
theorem d_Wo_shortSign_203 : decode prog_13_method_12_code 203 = .ok (.ireturn, 1) := by decide +kernel
theorem d_Wo_shortSign_204 : decode prog_13_method_12_code 204 = .ok (.bipush 38, 2) := by decide +kernel
theorem d_Wo_shortSign_206 : decode prog_13_method_12_code 206 = .ok (.ireturn, 1) := by decide +kernel
theorem d_Wo_shortSign_171 : decode prog_13_method_12_code 171 = .ok (.bipush 27, 2) := by decide +kernel
theorem d_Wo_shortSign_173 : decode prog_13_method_12_code 173 = .ok (.ireturn, 1) := by decide +kernel
theorem d_Wo_shortSign_165 : decode prog_13_method_12_code 165 = .ok (.bipush 25, 2) := by decide +kernel
theorem d_Wo_shortSign_167 : decode prog_13_method_12_code 167 = .ok (.ireturn, 1) := by decide +kernel
theorem d_Wo_shortSign_198 : decode prog_13_method_12_code 198 = .ok (.bipush 36, 2) := by decide +kernel
theorem d_Wo_shortSign_200 : decode prog_13_method_12_code 200 = .ok (.ireturn, 1) := by decide +kernel
theorem d_Wo_shortSign_168 : decode prog_13_method_12_code 168 = .ok (.bipush 26, 2) := by decide +kernel
theorem d_Wo_shortSign_170 : decode prog_13_method_12_code 170 = .ok (.ireturn, 1) := by decide +kernel
theorem d_Wo_shortSign_174 : decode prog_13_method_12_code 174 = .ok (.bipush 28, 2) := by decide +kernel
theorem d_Wo_shortSign_176 : decode prog_13_method_12_code 176 = .ok (.ireturn, 1) := by decide +kernel
theorem d_Wo_shortSign_192 : decode prog_13_method_12_code 192 = .ok (.bipush 34, 2) := by decide +kernel
theorem d_Wo_shortSign_194 : decode prog_13_method_12_code 194 = .ok (.ireturn, 1) := by decide +kernel
theorem d_Wo_shortSign_195 : decode prog_13_method_12_code 195 = .ok (.bipush 35, 2) := by decide +kernel
theorem d_Wo_shortSign_197 : decode prog_13_method_12_code 197 = .ok (.ireturn, 1) := by decide +kernel
theorem d_Wo_shortSign_156 : decode prog_13_method_12_code 156 = .ok (.bipush 22, 2) := by decide +kernel
theorem d_Wo_shortSign_158 : decode prog_13_method_12_code 158 = .ok (.ireturn, 1) := by decide +kernel
theorem d_Wo_shortSign_162 : decode prog_13_method_12_code 162 = .ok (.bipush 24, 2) := by decide +kernel
theorem d_Wo_shortSign_164 : decode prog_13_method_12_code 164 = .ok (.ireturn, 1) := by decide +kernel
theorem d_Wo_shortSign_159 : decode prog_13_method_12_code 159 = .ok (.bipush 23, 2) := by decide +kernel
theorem d_Wo_shortSign_161 : decode prog_13_method_12_code 161 = .ok (.ireturn, 1) := by decide +kernel
theorem d_Wo_shortSign_189 : decode prog_13_method_12_code 189 = .ok (.bipush 33, 2) := by decide +kernel
theorem d_Wo_shortSign_191 : decode prog_13_method_12_code 191 = .ok (.ireturn, 1) := by decide +kernel
theorem d_Wo_shortSign_183 : decode prog_13_method_12_code 183 = .ok (.bipush 31, 2) := by decide +kernel
theorem d_Wo_shortSign_185 : decode prog_13_method_12_code 185 = .ok (.ireturn, 1) := by decide +kernel
theorem d_Wo_shortSign_210 : decode prog_13_method_12_code 210 = .ok (.iconst 1, 1) := by decide +kernel
theorem d_Wo_shortSign_211 : decode prog_13_method_12_code 211 = .ok (.ireturn, 1) := by decide +kernel
def f_TR_faultPlace (h0_rules_place : Int32) : Option (Int32) := some (h0_rules_place)
set_option maxHeartbeats 4000000 in
set_option maxRecDepth 100000 in
theorem b_TR_faultPlace_0 {p : Program} {l : Launch} {e : Env} {s : State} {m : MethodId} {args : Array Value} {below : List Frame} {meth : Method} {c : Code} {D : va_G} {tA : Nat → ClassId} {A : Nat → Prop} {h0 h0_rules : Nat} {f0_h0 f0_h0_rules : List Value} {h0_rules_place : Int32} {out : Int32} (hx : p.tables.exec = Jvm.exec) (hb : c.code = prog_12_method_2_code) (hr : meth.sig.returnType = (Option.some Jvm.ClassFile.FieldType.int)) (hml : c.maxLocals = 1) (hh : zH s) (hg : ∀ w ∈ lw_R, w.before args s = true) (hown : s.vm.findClass "ChanceArena$TextReader" = some m.cls) (hlocks : meth.locks = false) (hK : va_K D vwCl (zT tA) s) (hA : ∀ q, s.heap.size ≤ q → A q)  : ∀ (H : Heap) (locs : List Loc) (ls : Array Slot), f_TR_faultPlace h0_rules_place = some out → f0_h0[0]? = some (.ref h0_rules) → f0_h0_rules[4]? = some (.int h0_rules_place) → va_P D vwCl [(h0, .inr (2, f0_h0)), (h0_rules, .inr (3, f0_h0_rules))] H → va_D A [(h0, .inr (2, f0_h0)), (h0_rules, .inr (3, f0_h0_rules))] → va_S A s.heap H locs → lv_has ls 1 [(0, .ref h0)] → W p l e { frames := 0, cells := 0, slots := 0, locals := 0 } s m args below meth c H locs 0 0 (MQ below (va_Qi (fun (r9 : Int32) (u9 : Unit) => r9 = out) (zPost D A (fun (u9 : Unit) => [(h0, .inr (2, f0_h0)), (h0_rules, .inr (3, f0_h0_rules))])) A) args s 0 0 A) (F0 m 0 ls []) := by
  intro    H locs ls hF q_h0_rules q_h0_rules_place hP hD hS hl
  replace hF : ((some (h0_rules_place)) : Option (Int32)) = some out := hF
  refine lv_aload_n hx hb d_TR_faultPlace_0 rfl (lv_at hl 0 rfl) ?_
  refine va_get (D := D) (ci := 2) (v := .ref h0_rules) (C := R_TR) (T := T_TR) (N := 9) hx hb hg i_TR hown hK hP 0 rfl rfl 0 (by decide) (hg _ k1_229) (fun _ h9 => h9) q_h0_rules d_TR_faultPlace_1 ?_
  refine va_get (D := D) (ci := 3) (v := .int h0_rules_place) (C := R_RR) (T := T_RR) (N := 20) hx hb hg i_RR hown hK hP 1 rfl rfl 4 (by decide) (hg _ k1_102) (fun _ h9 => h9) q_h0_rules_place d_TR_faultPlace_4 ?_
  replace hF := Option.some.inj hF
  subst hF
  exact zZret (post := (fun (r9 : Int32) (u9 : Unit) => r9 = h0_rules_place)) (W1 := (fun (u9 : Unit) => [(h0, .inr (2, f0_h0)), (h0_rules, .inr (3, f0_h0_rules))])) (v := h0_rules_place) hx hb hr rfl hlocks hP hD hS () rfl rfl d_TR_faultPlace_7
set_option maxHeartbeats 4000000 in
set_option maxRecDepth 100000 in
theorem m_TR_faultPlace (l : Launch) (D : va_G) (tA : Nat → ClassId) (sz : Nat) (h0 h0_rules : Nat) (f0_h0 f0_h0_rules : List Value) (h0_rules_place : Int32) (q_h0_rules : f0_h0[0]? = some (.ref h0_rules)) (q_h0_rules_place : f0_h0_rules[4]? = some (.int h0_rules_place)) (out : Int32) (hF : f_TR_faultPlace h0_rules_place = some out) : zMi l ({ cls := "ChanceArena$TextReader", name := "faultPlace", desc := "()I" } : Jvm.MethodName) (zW (Jvm.Cond.code ({ cls := "ChanceArena$TextReader", name := "faultPlace", desc := "()I" } : Jvm.MethodName) prog_12_method_2_code (1 : Nat) (Option.some Jvm.ClassFile.FieldType.int))) { frames := 0, cells := 0, slots := 0, locals := 0 } [.ref h0] D tA [(h0, .inr (2, f0_h0)), (h0_rules, .inr (3, f0_h0_rules))] sz (fun (r9 : Int32) (u9 : Unit) => r9 = out) (fun (u9 : Unit) => [(h0, .inr (2, f0_h0)), (h0_rules, .inr (3, f0_h0_rules))]) 0 0 := by
  refine zOpen (l := l) (y := ({ cls := "ChanceArena$TextReader", name := "faultPlace", desc := "()I" } : Jvm.MethodName)) (ws := zW (Jvm.Cond.code ({ cls := "ChanceArena$TextReader", name := "faultPlace", desc := "()I" } : Jvm.MethodName) prog_12_method_2_code (1 : Nat) (Option.some Jvm.ClassFile.FieldType.int))) (rm := { frames := 0, cells := 0, slots := 0, locals := 0 }) (av := [.ref h0]) (D := D) (tA := tA) (W0 := [(h0, .inr (2, f0_h0)), (h0_rules, .inr (3, f0_h0_rules))]) (Wm := [(h0, .inr (2, f0_h0)), (h0_rules, .inr (3, f0_h0_rules))]) (sz := sz) (mc := 0) (ms := 0) (fun A => va_Qi (fun (r9 : Int32) (u9 : Unit) => r9 = out) (zPost D A (fun (u9 : Unit) => [(h0, .inr (2, f0_h0)), (h0_rules, .inr (3, f0_h0_rules))])) A) (lv := [(0, .ref h0)]) (by decide) rfl (Nat.le_of_ble_eq_true rfl) rfl ?_
  intro p e s m below meth c A ls hx hb hr hml hh hg hown hlocks hnm hK hA hP hD0 hAw hS hl
  have hD := zD hD0 hAw
  exact b_TR_faultPlace_0 hx hb hr hml hh hg hown hlocks hK hA    _ _ _ hF q_h0_rules q_h0_rules_place hP hD hS hl
def f_Wo_longSign (l0 : Int32) (l1 : Int32) : Option (Int32) := if ¬ (l0 : Int32) = 46 then (if ¬ (l0 : Int32) = 45 then (if (l1 : Int32) = 61 then (if ¬ (l0 : Int32) = 33 then (if ¬ (l0 : Int32) = 60 then (if ¬ (l0 : Int32) = 62 then some (1) else some (21)) else some (20)) else some (19)) else some (1)) else if ¬ (l1 : Int32) = 62 then (if (l1 : Int32) = 61 then (if ¬ (l0 : Int32) = 33 then (if ¬ (l0 : Int32) = 60 then (if ¬ (l0 : Int32) = 62 then some (1) else some (21)) else some (20)) else some (19)) else some (1)) else some (18)) else if ¬ (l1 : Int32) = 46 then (if ¬ (l0 : Int32) = 45 then (if (l1 : Int32) = 61 then (if ¬ (l0 : Int32) = 33 then (if ¬ (l0 : Int32) = 60 then (if ¬ (l0 : Int32) = 62 then some (1) else some (21)) else some (20)) else some (19)) else some (1)) else if ¬ (l1 : Int32) = 62 then (if (l1 : Int32) = 61 then (if ¬ (l0 : Int32) = 33 then (if ¬ (l0 : Int32) = 60 then (if ¬ (l0 : Int32) = 62 then some (1) else some (21)) else some (20)) else some (19)) else some (1)) else some (18)) else some (17)
set_option maxHeartbeats 4000000 in
set_option maxRecDepth 100000 in
theorem b_Wo_longSign_0 {p : Program} {l : Launch} {e : Env} {s : State} {m : MethodId} {args : Array Value} {below : List Frame} {meth : Method} {c : Code} {D : va_G} {tA : Nat → ClassId} {A : Nat → Prop} {l0 : Int32} {l1 : Int32} {out : Int32} (hx : p.tables.exec = Jvm.exec) (hb : c.code = prog_13_method_11_code) (hr : meth.sig.returnType = (Option.some Jvm.ClassFile.FieldType.int)) (hml : c.maxLocals = 2) (hh : zH s) (hg : ∀ w ∈ lw_R, w.before args s = true) (hown : s.vm.findClass "ChanceArena$Words" = some m.cls) (hlocks : meth.locks = false) (hK : va_K D vwCl (zT tA) s) (hA : ∀ q, s.heap.size ≤ q → A q)  : ∀ (H : Heap) (locs : List Loc) (ls : Array Slot), f_Wo_longSign l0 l1 = some out → va_P D vwCl [] H → va_D A [] → va_S A s.heap H locs → lv_has ls 2 [(0, .int l0), (1, .int l1)] → W p l e { frames := 0, cells := 0, slots := 0, locals := 0 } s m args below meth c H locs 0 0 (MQ below (va_Qi (fun (r9 : Int32) (u9 : Unit) => r9 = out) (zPost D A (fun (u9 : Unit) => [])) A) args s 0 0 A) (F0 m 0 ls []) := by
  intro    H locs ls hF  hP hD hS hl
  replace hF : ((if ¬ (l0 : Int32) = 46 then (if ¬ (l0 : Int32) = 45 then (if (l1 : Int32) = 61 then (if ¬ (l0 : Int32) = 33 then (if ¬ (l0 : Int32) = 60 then (if ¬ (l0 : Int32) = 62 then some (1) else some (21)) else some (20)) else some (19)) else some (1)) else if ¬ (l1 : Int32) = 62 then (if (l1 : Int32) = 61 then (if ¬ (l0 : Int32) = 33 then (if ¬ (l0 : Int32) = 60 then (if ¬ (l0 : Int32) = 62 then some (1) else some (21)) else some (20)) else some (19)) else some (1)) else some (18)) else if ¬ (l1 : Int32) = 46 then (if ¬ (l0 : Int32) = 45 then (if (l1 : Int32) = 61 then (if ¬ (l0 : Int32) = 33 then (if ¬ (l0 : Int32) = 60 then (if ¬ (l0 : Int32) = 62 then some (1) else some (21)) else some (20)) else some (19)) else some (1)) else if ¬ (l1 : Int32) = 62 then (if (l1 : Int32) = 61 then (if ¬ (l0 : Int32) = 33 then (if ¬ (l0 : Int32) = 60 then (if ¬ (l0 : Int32) = 62 then some (1) else some (21)) else some (20)) else some (19)) else some (1)) else some (18)) else some (17)) : Option (Int32)) = some out := hF
  refine lv_iload_n hx hb d_Wo_longSign_0 rfl (lv_at hl 0 rfl) ?_
  refine lv_bipush (v := 46) hx hb d_Wo_longSign_1 (by decide) ?_
  refine lv_icmp_ne (tgt := 15) hx hb d_Wo_longSign_3 (by decide) (fun c9 => ?_) (fun c9 => ?_)
  · replace hF := ifp c9 hF
    refine lv_iload_n hx hb d_Wo_longSign_15 rfl (lv_at hl 0 rfl) ?_
    refine lv_bipush (v := 45) hx hb d_Wo_longSign_16 (by decide) ?_
    refine lv_icmp_ne (tgt := 30) hx hb d_Wo_longSign_18 (by decide) (fun c9 => ?_) (fun c9 => ?_)
    · replace hF := ifp c9 hF
      refine lv_iload_n hx hb d_Wo_longSign_30 rfl (lv_at hl 1 rfl) ?_
      refine lv_bipush (v := 61) hx hb d_Wo_longSign_31 (by decide) ?_
      refine lv_icmp_eq (tgt := 38) hx hb d_Wo_longSign_33 (by decide) (fun c9 => ?_) (fun c9 => ?_)
      · replace hF := ifp c9 hF
        refine lv_iload_n hx hb d_Wo_longSign_38 rfl (lv_at hl 0 rfl) ?_
        refine lv_bipush (v := 33) hx hb d_Wo_longSign_39 (by decide) ?_
        refine lv_icmp_ne (tgt := 49) hx hb d_Wo_longSign_41 (by decide) (fun c9 => ?_) (fun c9 => ?_)
        · replace hF := ifp c9 hF
          refine lv_iload_n hx hb d_Wo_longSign_49 rfl (lv_at hl 0 rfl) ?_
          refine lv_bipush (v := 60) hx hb d_Wo_longSign_50 (by decide) ?_
          refine lv_icmp_ne (tgt := 60) hx hb d_Wo_longSign_52 (by decide) (fun c9 => ?_) (fun c9 => ?_)
          · replace hF := ifp c9 hF
            refine lv_iload_n hx hb d_Wo_longSign_60 rfl (lv_at hl 0 rfl) ?_
            refine lv_bipush (v := 62) hx hb d_Wo_longSign_61 (by decide) ?_
            refine lv_icmp_ne (tgt := 71) hx hb d_Wo_longSign_63 (by decide) (fun c9 => ?_) (fun c9 => ?_)
            · replace hF := ifp c9 hF
              refine lv_iconst (v := 1) hx hb d_Wo_longSign_71 (by decide) ?_
              replace hF := Option.some.inj hF
              subst hF
              exact zZret (post := (fun (r9 : Int32) (u9 : Unit) => r9 = 1)) (W1 := (fun (u9 : Unit) => [])) (v := 1) hx hb hr rfl hlocks hP hD hS () rfl rfl d_Wo_longSign_72
            · replace hF := ifn (fun h9 => h9 c9) hF
              refine lv_bipush (v := 21) hx hb d_Wo_longSign_66 (by decide) ?_
              refine lv_goto (tgt := 72) hx hb d_Wo_longSign_68 (by decide) ?_
              replace hF := Option.some.inj hF
              subst hF
              exact zZret (post := (fun (r9 : Int32) (u9 : Unit) => r9 = 21)) (W1 := (fun (u9 : Unit) => [])) (v := 21) hx hb hr rfl hlocks hP hD hS () rfl rfl d_Wo_longSign_72
          · replace hF := ifn (fun h9 => h9 c9) hF
            refine lv_bipush (v := 20) hx hb d_Wo_longSign_55 (by decide) ?_
            refine lv_goto (tgt := 72) hx hb d_Wo_longSign_57 (by decide) ?_
            replace hF := Option.some.inj hF
            subst hF
            exact zZret (post := (fun (r9 : Int32) (u9 : Unit) => r9 = 20)) (W1 := (fun (u9 : Unit) => [])) (v := 20) hx hb hr rfl hlocks hP hD hS () rfl rfl d_Wo_longSign_72
        · replace hF := ifn (fun h9 => h9 c9) hF
          refine lv_bipush (v := 19) hx hb d_Wo_longSign_44 (by decide) ?_
          refine lv_goto (tgt := 72) hx hb d_Wo_longSign_46 (by decide) ?_
          replace hF := Option.some.inj hF
          subst hF
          exact zZret (post := (fun (r9 : Int32) (u9 : Unit) => r9 = 19)) (W1 := (fun (u9 : Unit) => [])) (v := 19) hx hb hr rfl hlocks hP hD hS () rfl rfl d_Wo_longSign_72
      · replace hF := ifn c9 hF
        refine lv_iconst (v := 1) hx hb d_Wo_longSign_36 (by decide) ?_
        replace hF := Option.some.inj hF
        subst hF
        exact zZret (post := (fun (r9 : Int32) (u9 : Unit) => r9 = 1)) (W1 := (fun (u9 : Unit) => [])) (v := 1) hx hb hr rfl hlocks hP hD hS () rfl rfl d_Wo_longSign_37
    · replace hF := ifn (fun h9 => h9 c9) hF
      refine lv_iload_n hx hb d_Wo_longSign_21 rfl (lv_at hl 1 rfl) ?_
      refine lv_bipush (v := 62) hx hb d_Wo_longSign_22 (by decide) ?_
      refine lv_icmp_ne (tgt := 30) hx hb d_Wo_longSign_24 (by decide) (fun c9 => ?_) (fun c9 => ?_)
      · replace hF := ifp c9 hF
        refine lv_iload_n hx hb d_Wo_longSign_30 rfl (lv_at hl 1 rfl) ?_
        refine lv_bipush (v := 61) hx hb d_Wo_longSign_31 (by decide) ?_
        refine lv_icmp_eq (tgt := 38) hx hb d_Wo_longSign_33 (by decide) (fun c9 => ?_) (fun c9 => ?_)
        · replace hF := ifp c9 hF
          refine lv_iload_n hx hb d_Wo_longSign_38 rfl (lv_at hl 0 rfl) ?_
          refine lv_bipush (v := 33) hx hb d_Wo_longSign_39 (by decide) ?_
          refine lv_icmp_ne (tgt := 49) hx hb d_Wo_longSign_41 (by decide) (fun c9 => ?_) (fun c9 => ?_)
          · replace hF := ifp c9 hF
            refine lv_iload_n hx hb d_Wo_longSign_49 rfl (lv_at hl 0 rfl) ?_
            refine lv_bipush (v := 60) hx hb d_Wo_longSign_50 (by decide) ?_
            refine lv_icmp_ne (tgt := 60) hx hb d_Wo_longSign_52 (by decide) (fun c9 => ?_) (fun c9 => ?_)
            · replace hF := ifp c9 hF
              refine lv_iload_n hx hb d_Wo_longSign_60 rfl (lv_at hl 0 rfl) ?_
              refine lv_bipush (v := 62) hx hb d_Wo_longSign_61 (by decide) ?_
              refine lv_icmp_ne (tgt := 71) hx hb d_Wo_longSign_63 (by decide) (fun c9 => ?_) (fun c9 => ?_)
              · replace hF := ifp c9 hF
                refine lv_iconst (v := 1) hx hb d_Wo_longSign_71 (by decide) ?_
                replace hF := Option.some.inj hF
                subst hF
                exact zZret (post := (fun (r9 : Int32) (u9 : Unit) => r9 = 1)) (W1 := (fun (u9 : Unit) => [])) (v := 1) hx hb hr rfl hlocks hP hD hS () rfl rfl d_Wo_longSign_72
              · replace hF := ifn (fun h9 => h9 c9) hF
                refine lv_bipush (v := 21) hx hb d_Wo_longSign_66 (by decide) ?_
                refine lv_goto (tgt := 72) hx hb d_Wo_longSign_68 (by decide) ?_
                replace hF := Option.some.inj hF
                subst hF
                exact zZret (post := (fun (r9 : Int32) (u9 : Unit) => r9 = 21)) (W1 := (fun (u9 : Unit) => [])) (v := 21) hx hb hr rfl hlocks hP hD hS () rfl rfl d_Wo_longSign_72
            · replace hF := ifn (fun h9 => h9 c9) hF
              refine lv_bipush (v := 20) hx hb d_Wo_longSign_55 (by decide) ?_
              refine lv_goto (tgt := 72) hx hb d_Wo_longSign_57 (by decide) ?_
              replace hF := Option.some.inj hF
              subst hF
              exact zZret (post := (fun (r9 : Int32) (u9 : Unit) => r9 = 20)) (W1 := (fun (u9 : Unit) => [])) (v := 20) hx hb hr rfl hlocks hP hD hS () rfl rfl d_Wo_longSign_72
          · replace hF := ifn (fun h9 => h9 c9) hF
            refine lv_bipush (v := 19) hx hb d_Wo_longSign_44 (by decide) ?_
            refine lv_goto (tgt := 72) hx hb d_Wo_longSign_46 (by decide) ?_
            replace hF := Option.some.inj hF
            subst hF
            exact zZret (post := (fun (r9 : Int32) (u9 : Unit) => r9 = 19)) (W1 := (fun (u9 : Unit) => [])) (v := 19) hx hb hr rfl hlocks hP hD hS () rfl rfl d_Wo_longSign_72
        · replace hF := ifn c9 hF
          refine lv_iconst (v := 1) hx hb d_Wo_longSign_36 (by decide) ?_
          replace hF := Option.some.inj hF
          subst hF
          exact zZret (post := (fun (r9 : Int32) (u9 : Unit) => r9 = 1)) (W1 := (fun (u9 : Unit) => [])) (v := 1) hx hb hr rfl hlocks hP hD hS () rfl rfl d_Wo_longSign_37
      · replace hF := ifn (fun h9 => h9 c9) hF
        refine lv_bipush (v := 18) hx hb d_Wo_longSign_27 (by decide) ?_
        replace hF := Option.some.inj hF
        subst hF
        exact zZret (post := (fun (r9 : Int32) (u9 : Unit) => r9 = 18)) (W1 := (fun (u9 : Unit) => [])) (v := 18) hx hb hr rfl hlocks hP hD hS () rfl rfl d_Wo_longSign_29
  · replace hF := ifn (fun h9 => h9 c9) hF
    refine lv_iload_n hx hb d_Wo_longSign_6 rfl (lv_at hl 1 rfl) ?_
    refine lv_bipush (v := 46) hx hb d_Wo_longSign_7 (by decide) ?_
    refine lv_icmp_ne (tgt := 15) hx hb d_Wo_longSign_9 (by decide) (fun c9 => ?_) (fun c9 => ?_)
    · replace hF := ifp c9 hF
      refine lv_iload_n hx hb d_Wo_longSign_15 rfl (lv_at hl 0 rfl) ?_
      refine lv_bipush (v := 45) hx hb d_Wo_longSign_16 (by decide) ?_
      refine lv_icmp_ne (tgt := 30) hx hb d_Wo_longSign_18 (by decide) (fun c9 => ?_) (fun c9 => ?_)
      · replace hF := ifp c9 hF
        refine lv_iload_n hx hb d_Wo_longSign_30 rfl (lv_at hl 1 rfl) ?_
        refine lv_bipush (v := 61) hx hb d_Wo_longSign_31 (by decide) ?_
        refine lv_icmp_eq (tgt := 38) hx hb d_Wo_longSign_33 (by decide) (fun c9 => ?_) (fun c9 => ?_)
        · replace hF := ifp c9 hF
          refine lv_iload_n hx hb d_Wo_longSign_38 rfl (lv_at hl 0 rfl) ?_
          refine lv_bipush (v := 33) hx hb d_Wo_longSign_39 (by decide) ?_
          refine lv_icmp_ne (tgt := 49) hx hb d_Wo_longSign_41 (by decide) (fun c9 => ?_) (fun c9 => ?_)
          · replace hF := ifp c9 hF
            refine lv_iload_n hx hb d_Wo_longSign_49 rfl (lv_at hl 0 rfl) ?_
            refine lv_bipush (v := 60) hx hb d_Wo_longSign_50 (by decide) ?_
            refine lv_icmp_ne (tgt := 60) hx hb d_Wo_longSign_52 (by decide) (fun c9 => ?_) (fun c9 => ?_)
            · replace hF := ifp c9 hF
              refine lv_iload_n hx hb d_Wo_longSign_60 rfl (lv_at hl 0 rfl) ?_
              refine lv_bipush (v := 62) hx hb d_Wo_longSign_61 (by decide) ?_
              refine lv_icmp_ne (tgt := 71) hx hb d_Wo_longSign_63 (by decide) (fun c9 => ?_) (fun c9 => ?_)
              · replace hF := ifp c9 hF
                refine lv_iconst (v := 1) hx hb d_Wo_longSign_71 (by decide) ?_
                replace hF := Option.some.inj hF
                subst hF
                exact zZret (post := (fun (r9 : Int32) (u9 : Unit) => r9 = 1)) (W1 := (fun (u9 : Unit) => [])) (v := 1) hx hb hr rfl hlocks hP hD hS () rfl rfl d_Wo_longSign_72
              · replace hF := ifn (fun h9 => h9 c9) hF
                refine lv_bipush (v := 21) hx hb d_Wo_longSign_66 (by decide) ?_
                refine lv_goto (tgt := 72) hx hb d_Wo_longSign_68 (by decide) ?_
                replace hF := Option.some.inj hF
                subst hF
                exact zZret (post := (fun (r9 : Int32) (u9 : Unit) => r9 = 21)) (W1 := (fun (u9 : Unit) => [])) (v := 21) hx hb hr rfl hlocks hP hD hS () rfl rfl d_Wo_longSign_72
            · replace hF := ifn (fun h9 => h9 c9) hF
              refine lv_bipush (v := 20) hx hb d_Wo_longSign_55 (by decide) ?_
              refine lv_goto (tgt := 72) hx hb d_Wo_longSign_57 (by decide) ?_
              replace hF := Option.some.inj hF
              subst hF
              exact zZret (post := (fun (r9 : Int32) (u9 : Unit) => r9 = 20)) (W1 := (fun (u9 : Unit) => [])) (v := 20) hx hb hr rfl hlocks hP hD hS () rfl rfl d_Wo_longSign_72
          · replace hF := ifn (fun h9 => h9 c9) hF
            refine lv_bipush (v := 19) hx hb d_Wo_longSign_44 (by decide) ?_
            refine lv_goto (tgt := 72) hx hb d_Wo_longSign_46 (by decide) ?_
            replace hF := Option.some.inj hF
            subst hF
            exact zZret (post := (fun (r9 : Int32) (u9 : Unit) => r9 = 19)) (W1 := (fun (u9 : Unit) => [])) (v := 19) hx hb hr rfl hlocks hP hD hS () rfl rfl d_Wo_longSign_72
        · replace hF := ifn c9 hF
          refine lv_iconst (v := 1) hx hb d_Wo_longSign_36 (by decide) ?_
          replace hF := Option.some.inj hF
          subst hF
          exact zZret (post := (fun (r9 : Int32) (u9 : Unit) => r9 = 1)) (W1 := (fun (u9 : Unit) => [])) (v := 1) hx hb hr rfl hlocks hP hD hS () rfl rfl d_Wo_longSign_37
      · replace hF := ifn (fun h9 => h9 c9) hF
        refine lv_iload_n hx hb d_Wo_longSign_21 rfl (lv_at hl 1 rfl) ?_
        refine lv_bipush (v := 62) hx hb d_Wo_longSign_22 (by decide) ?_
        refine lv_icmp_ne (tgt := 30) hx hb d_Wo_longSign_24 (by decide) (fun c9 => ?_) (fun c9 => ?_)
        · replace hF := ifp c9 hF
          refine lv_iload_n hx hb d_Wo_longSign_30 rfl (lv_at hl 1 rfl) ?_
          refine lv_bipush (v := 61) hx hb d_Wo_longSign_31 (by decide) ?_
          refine lv_icmp_eq (tgt := 38) hx hb d_Wo_longSign_33 (by decide) (fun c9 => ?_) (fun c9 => ?_)
          · replace hF := ifp c9 hF
            refine lv_iload_n hx hb d_Wo_longSign_38 rfl (lv_at hl 0 rfl) ?_
            refine lv_bipush (v := 33) hx hb d_Wo_longSign_39 (by decide) ?_
            refine lv_icmp_ne (tgt := 49) hx hb d_Wo_longSign_41 (by decide) (fun c9 => ?_) (fun c9 => ?_)
            · replace hF := ifp c9 hF
              refine lv_iload_n hx hb d_Wo_longSign_49 rfl (lv_at hl 0 rfl) ?_
              refine lv_bipush (v := 60) hx hb d_Wo_longSign_50 (by decide) ?_
              refine lv_icmp_ne (tgt := 60) hx hb d_Wo_longSign_52 (by decide) (fun c9 => ?_) (fun c9 => ?_)
              · replace hF := ifp c9 hF
                refine lv_iload_n hx hb d_Wo_longSign_60 rfl (lv_at hl 0 rfl) ?_
                refine lv_bipush (v := 62) hx hb d_Wo_longSign_61 (by decide) ?_
                refine lv_icmp_ne (tgt := 71) hx hb d_Wo_longSign_63 (by decide) (fun c9 => ?_) (fun c9 => ?_)
                · replace hF := ifp c9 hF
                  refine lv_iconst (v := 1) hx hb d_Wo_longSign_71 (by decide) ?_
                  replace hF := Option.some.inj hF
                  subst hF
                  exact zZret (post := (fun (r9 : Int32) (u9 : Unit) => r9 = 1)) (W1 := (fun (u9 : Unit) => [])) (v := 1) hx hb hr rfl hlocks hP hD hS () rfl rfl d_Wo_longSign_72
                · replace hF := ifn (fun h9 => h9 c9) hF
                  refine lv_bipush (v := 21) hx hb d_Wo_longSign_66 (by decide) ?_
                  refine lv_goto (tgt := 72) hx hb d_Wo_longSign_68 (by decide) ?_
                  replace hF := Option.some.inj hF
                  subst hF
                  exact zZret (post := (fun (r9 : Int32) (u9 : Unit) => r9 = 21)) (W1 := (fun (u9 : Unit) => [])) (v := 21) hx hb hr rfl hlocks hP hD hS () rfl rfl d_Wo_longSign_72
              · replace hF := ifn (fun h9 => h9 c9) hF
                refine lv_bipush (v := 20) hx hb d_Wo_longSign_55 (by decide) ?_
                refine lv_goto (tgt := 72) hx hb d_Wo_longSign_57 (by decide) ?_
                replace hF := Option.some.inj hF
                subst hF
                exact zZret (post := (fun (r9 : Int32) (u9 : Unit) => r9 = 20)) (W1 := (fun (u9 : Unit) => [])) (v := 20) hx hb hr rfl hlocks hP hD hS () rfl rfl d_Wo_longSign_72
            · replace hF := ifn (fun h9 => h9 c9) hF
              refine lv_bipush (v := 19) hx hb d_Wo_longSign_44 (by decide) ?_
              refine lv_goto (tgt := 72) hx hb d_Wo_longSign_46 (by decide) ?_
              replace hF := Option.some.inj hF
              subst hF
              exact zZret (post := (fun (r9 : Int32) (u9 : Unit) => r9 = 19)) (W1 := (fun (u9 : Unit) => [])) (v := 19) hx hb hr rfl hlocks hP hD hS () rfl rfl d_Wo_longSign_72
          · replace hF := ifn c9 hF
            refine lv_iconst (v := 1) hx hb d_Wo_longSign_36 (by decide) ?_
            replace hF := Option.some.inj hF
            subst hF
            exact zZret (post := (fun (r9 : Int32) (u9 : Unit) => r9 = 1)) (W1 := (fun (u9 : Unit) => [])) (v := 1) hx hb hr rfl hlocks hP hD hS () rfl rfl d_Wo_longSign_37
        · replace hF := ifn (fun h9 => h9 c9) hF
          refine lv_bipush (v := 18) hx hb d_Wo_longSign_27 (by decide) ?_
          replace hF := Option.some.inj hF
          subst hF
          exact zZret (post := (fun (r9 : Int32) (u9 : Unit) => r9 = 18)) (W1 := (fun (u9 : Unit) => [])) (v := 18) hx hb hr rfl hlocks hP hD hS () rfl rfl d_Wo_longSign_29
    · replace hF := ifn (fun h9 => h9 c9) hF
      refine lv_bipush (v := 17) hx hb d_Wo_longSign_12 (by decide) ?_
      replace hF := Option.some.inj hF
      subst hF
      exact zZret (post := (fun (r9 : Int32) (u9 : Unit) => r9 = 17)) (W1 := (fun (u9 : Unit) => [])) (v := 17) hx hb hr rfl hlocks hP hD hS () rfl rfl d_Wo_longSign_14
set_option maxHeartbeats 4000000 in
set_option maxRecDepth 100000 in
theorem m_Wo_longSign (l : Launch) (D : va_G) (tA : Nat → ClassId) (sz : Nat) (l0 : Int32) (l1 : Int32) (out : Int32) (hF : f_Wo_longSign l0 l1 = some out) : zMi l ({ cls := "ChanceArena$Words", name := "longSign", desc := "(CC)I" } : Jvm.MethodName) (zW (Jvm.Cond.code ({ cls := "ChanceArena$Words", name := "longSign", desc := "(CC)I" } : Jvm.MethodName) prog_13_method_11_code (2 : Nat) (Option.some Jvm.ClassFile.FieldType.int))) { frames := 0, cells := 0, slots := 0, locals := 0 } [.int l0, .int l1] D tA [] sz (fun (r9 : Int32) (u9 : Unit) => r9 = out) (fun (u9 : Unit) => []) 0 0 := by
  refine zOpen (l := l) (y := ({ cls := "ChanceArena$Words", name := "longSign", desc := "(CC)I" } : Jvm.MethodName)) (ws := zW (Jvm.Cond.code ({ cls := "ChanceArena$Words", name := "longSign", desc := "(CC)I" } : Jvm.MethodName) prog_13_method_11_code (2 : Nat) (Option.some Jvm.ClassFile.FieldType.int))) (rm := { frames := 0, cells := 0, slots := 0, locals := 0 }) (av := [.int l0, .int l1]) (D := D) (tA := tA) (W0 := []) (Wm := []) (sz := sz) (mc := 0) (ms := 0) (fun A => va_Qi (fun (r9 : Int32) (u9 : Unit) => r9 = out) (zPost D A (fun (u9 : Unit) => [])) A) (lv := [(0, .int l0), (1, .int l1)]) (by decide) rfl (Nat.le_of_ble_eq_true rfl) rfl ?_
  intro p e s m below meth c A ls hx hb hr hml hh hg hown hlocks hnm hK hA hP hD0 hAw hS hl
  have hD := zD hD0 hAw
  exact b_Wo_longSign_0 hx hb hr hml hh hg hown hlocks hK hA    _ _ _ hF  hP hD hS hl
def f_Wo_shortSign (l0 : Int32) : Option (Int32) := if (l0 : Int32).toInt = 33 then (some (32)) else if (l0 : Int32).toInt = 37 then (some (29)) else if (l0 : Int32).toInt = 38 then (some (30)) else if (l0 : Int32).toInt = 39 then (some (39)) else if (l0 : Int32).toInt = 40 then (some (37)) else if (l0 : Int32).toInt = 41 then (some (38)) else if (l0 : Int32).toInt = 42 then (some (27)) else if (l0 : Int32).toInt = 43 then (some (25)) else if (l0 : Int32).toInt = 44 then (some (36)) else if (l0 : Int32).toInt = 45 then (some (26)) else if (l0 : Int32).toInt = 47 then (some (28)) else if (l0 : Int32).toInt = 58 then (some (34)) else if (l0 : Int32).toInt = 59 then (some (35)) else if (l0 : Int32).toInt = 60 then (some (22)) else if (l0 : Int32).toInt = 61 then (some (24)) else if (l0 : Int32).toInt = 62 then (some (23)) else if (l0 : Int32).toInt = 63 then (some (33)) else if (l0 : Int32).toInt = 124 then (some (31)) else some (1)
set_option maxHeartbeats 4000000 in
set_option maxRecDepth 100000 in
theorem b_Wo_shortSign_0 {p : Program} {l : Launch} {e : Env} {s : State} {m : MethodId} {args : Array Value} {below : List Frame} {meth : Method} {c : Code} {D : va_G} {tA : Nat → ClassId} {A : Nat → Prop} {l0 : Int32} {out : Int32} (hx : p.tables.exec = Jvm.exec) (hb : c.code = prog_13_method_12_code) (hr : meth.sig.returnType = (Option.some Jvm.ClassFile.FieldType.int)) (hml : c.maxLocals = 1) (hh : zH s) (hg : ∀ w ∈ lw_R, w.before args s = true) (hown : s.vm.findClass "ChanceArena$Words" = some m.cls) (hlocks : meth.locks = false) (hK : va_K D vwCl (zT tA) s) (hA : ∀ q, s.heap.size ≤ q → A q)  : ∀ (H : Heap) (locs : List Loc) (ls : Array Slot), f_Wo_shortSign l0 = some out → va_P D vwCl [] H → va_D A [] → va_S A s.heap H locs → lv_has ls 1 [(0, .int l0)] → W p l e { frames := 0, cells := 0, slots := 0, locals := 0 } s m args below meth c H locs 0 0 (MQ below (va_Qi (fun (r9 : Int32) (u9 : Unit) => r9 = out) (zPost D A (fun (u9 : Unit) => [])) A) args s 0 0 A) (F0 m 0 ls []) := by
  intro    H locs ls hF  hP hD hS hl
  replace hF : ((if (l0 : Int32).toInt = 33 then (some (32)) else if (l0 : Int32).toInt = 37 then (some (29)) else if (l0 : Int32).toInt = 38 then (some (30)) else if (l0 : Int32).toInt = 39 then (some (39)) else if (l0 : Int32).toInt = 40 then (some (37)) else if (l0 : Int32).toInt = 41 then (some (38)) else if (l0 : Int32).toInt = 42 then (some (27)) else if (l0 : Int32).toInt = 43 then (some (25)) else if (l0 : Int32).toInt = 44 then (some (36)) else if (l0 : Int32).toInt = 45 then (some (26)) else if (l0 : Int32).toInt = 47 then (some (28)) else if (l0 : Int32).toInt = 58 then (some (34)) else if (l0 : Int32).toInt = 59 then (some (35)) else if (l0 : Int32).toInt = 60 then (some (22)) else if (l0 : Int32).toInt = 61 then (some (24)) else if (l0 : Int32).toInt = 62 then (some (23)) else if (l0 : Int32).toInt = 63 then (some (33)) else if (l0 : Int32).toInt = 124 then (some (31)) else some (1)) : Option (Int32)) = some out := hF
  refine lv_iload_n hx hb d_Wo_shortSign_0 rfl (lv_at hl 0 rfl) ?_
  by_cases w1_33 : (l0 : Int32).toInt = 33
  · replace hF := ifp w1_33 hF
    refine lv_lookup (off := 185) (tgt := 186) hx hb d_Wo_shortSign_1 (by decide +kernel) (by rw [w1_33]; decide) (by decide) ?_
    refine lv_bipush (v := 32) hx hb d_Wo_shortSign_186 (by decide) ?_
    replace hF := Option.some.inj hF
    subst hF
    exact zZret (post := (fun (r9 : Int32) (u9 : Unit) => r9 = 32)) (W1 := (fun (u9 : Unit) => [])) (v := 32) hx hb hr rfl hlocks hP hD hS () rfl rfl d_Wo_shortSign_188
  · replace hF := ifn w1_33 hF
    by_cases w1_37 : (l0 : Int32).toInt = 37
    · replace hF := ifp w1_37 hF
      refine lv_lookup (off := 176) (tgt := 177) hx hb d_Wo_shortSign_1 (by decide +kernel) (by rw [w1_37]; decide) (by decide) ?_
      refine lv_bipush (v := 29) hx hb d_Wo_shortSign_177 (by decide) ?_
      replace hF := Option.some.inj hF
      subst hF
      exact zZret (post := (fun (r9 : Int32) (u9 : Unit) => r9 = 29)) (W1 := (fun (u9 : Unit) => [])) (v := 29) hx hb hr rfl hlocks hP hD hS () rfl rfl d_Wo_shortSign_179
    · replace hF := ifn w1_37 hF
      by_cases w1_38 : (l0 : Int32).toInt = 38
      · replace hF := ifp w1_38 hF
        refine lv_lookup (off := 179) (tgt := 180) hx hb d_Wo_shortSign_1 (by decide +kernel) (by rw [w1_38]; decide) (by decide) ?_
        refine lv_bipush (v := 30) hx hb d_Wo_shortSign_180 (by decide) ?_
        replace hF := Option.some.inj hF
        subst hF
        exact zZret (post := (fun (r9 : Int32) (u9 : Unit) => r9 = 30)) (W1 := (fun (u9 : Unit) => [])) (v := 30) hx hb hr rfl hlocks hP hD hS () rfl rfl d_Wo_shortSign_182
      · replace hF := ifn w1_38 hF
        by_cases w1_39 : (l0 : Int32).toInt = 39
        · replace hF := ifp w1_39 hF
          refine lv_lookup (off := 206) (tgt := 207) hx hb d_Wo_shortSign_1 (by decide +kernel) (by rw [w1_39]; decide) (by decide) ?_
          refine lv_bipush (v := 39) hx hb d_Wo_shortSign_207 (by decide) ?_
          replace hF := Option.some.inj hF
          subst hF
          exact zZret (post := (fun (r9 : Int32) (u9 : Unit) => r9 = 39)) (W1 := (fun (u9 : Unit) => [])) (v := 39) hx hb hr rfl hlocks hP hD hS () rfl rfl d_Wo_shortSign_209
        · replace hF := ifn w1_39 hF
          by_cases w1_40 : (l0 : Int32).toInt = 40
          · replace hF := ifp w1_40 hF
            refine lv_lookup (off := 200) (tgt := 201) hx hb d_Wo_shortSign_1 (by decide +kernel) (by rw [w1_40]; decide) (by decide) ?_
            refine lv_bipush (v := 37) hx hb d_Wo_shortSign_201 (by decide) ?_
            replace hF := Option.some.inj hF
            subst hF
            exact zZret (post := (fun (r9 : Int32) (u9 : Unit) => r9 = 37)) (W1 := (fun (u9 : Unit) => [])) (v := 37) hx hb hr rfl hlocks hP hD hS () rfl rfl d_Wo_shortSign_203
          · replace hF := ifn w1_40 hF
            by_cases w1_41 : (l0 : Int32).toInt = 41
            · replace hF := ifp w1_41 hF
              refine lv_lookup (off := 203) (tgt := 204) hx hb d_Wo_shortSign_1 (by decide +kernel) (by rw [w1_41]; decide) (by decide) ?_
              refine lv_bipush (v := 38) hx hb d_Wo_shortSign_204 (by decide) ?_
              replace hF := Option.some.inj hF
              subst hF
              exact zZret (post := (fun (r9 : Int32) (u9 : Unit) => r9 = 38)) (W1 := (fun (u9 : Unit) => [])) (v := 38) hx hb hr rfl hlocks hP hD hS () rfl rfl d_Wo_shortSign_206
            · replace hF := ifn w1_41 hF
              by_cases w1_42 : (l0 : Int32).toInt = 42
              · replace hF := ifp w1_42 hF
                refine lv_lookup (off := 170) (tgt := 171) hx hb d_Wo_shortSign_1 (by decide +kernel) (by rw [w1_42]; decide) (by decide) ?_
                refine lv_bipush (v := 27) hx hb d_Wo_shortSign_171 (by decide) ?_
                replace hF := Option.some.inj hF
                subst hF
                exact zZret (post := (fun (r9 : Int32) (u9 : Unit) => r9 = 27)) (W1 := (fun (u9 : Unit) => [])) (v := 27) hx hb hr rfl hlocks hP hD hS () rfl rfl d_Wo_shortSign_173
              · replace hF := ifn w1_42 hF
                by_cases w1_43 : (l0 : Int32).toInt = 43
                · replace hF := ifp w1_43 hF
                  refine lv_lookup (off := 164) (tgt := 165) hx hb d_Wo_shortSign_1 (by decide +kernel) (by rw [w1_43]; decide) (by decide) ?_
                  refine lv_bipush (v := 25) hx hb d_Wo_shortSign_165 (by decide) ?_
                  replace hF := Option.some.inj hF
                  subst hF
                  exact zZret (post := (fun (r9 : Int32) (u9 : Unit) => r9 = 25)) (W1 := (fun (u9 : Unit) => [])) (v := 25) hx hb hr rfl hlocks hP hD hS () rfl rfl d_Wo_shortSign_167
                · replace hF := ifn w1_43 hF
                  by_cases w1_44 : (l0 : Int32).toInt = 44
                  · replace hF := ifp w1_44 hF
                    refine lv_lookup (off := 197) (tgt := 198) hx hb d_Wo_shortSign_1 (by decide +kernel) (by rw [w1_44]; decide) (by decide) ?_
                    refine lv_bipush (v := 36) hx hb d_Wo_shortSign_198 (by decide) ?_
                    replace hF := Option.some.inj hF
                    subst hF
                    exact zZret (post := (fun (r9 : Int32) (u9 : Unit) => r9 = 36)) (W1 := (fun (u9 : Unit) => [])) (v := 36) hx hb hr rfl hlocks hP hD hS () rfl rfl d_Wo_shortSign_200
                  · replace hF := ifn w1_44 hF
                    by_cases w1_45 : (l0 : Int32).toInt = 45
                    · replace hF := ifp w1_45 hF
                      refine lv_lookup (off := 167) (tgt := 168) hx hb d_Wo_shortSign_1 (by decide +kernel) (by rw [w1_45]; decide) (by decide) ?_
                      refine lv_bipush (v := 26) hx hb d_Wo_shortSign_168 (by decide) ?_
                      replace hF := Option.some.inj hF
                      subst hF
                      exact zZret (post := (fun (r9 : Int32) (u9 : Unit) => r9 = 26)) (W1 := (fun (u9 : Unit) => [])) (v := 26) hx hb hr rfl hlocks hP hD hS () rfl rfl d_Wo_shortSign_170
                    · replace hF := ifn w1_45 hF
                      by_cases w1_47 : (l0 : Int32).toInt = 47
                      · replace hF := ifp w1_47 hF
                        refine lv_lookup (off := 173) (tgt := 174) hx hb d_Wo_shortSign_1 (by decide +kernel) (by rw [w1_47]; decide) (by decide) ?_
                        refine lv_bipush (v := 28) hx hb d_Wo_shortSign_174 (by decide) ?_
                        replace hF := Option.some.inj hF
                        subst hF
                        exact zZret (post := (fun (r9 : Int32) (u9 : Unit) => r9 = 28)) (W1 := (fun (u9 : Unit) => [])) (v := 28) hx hb hr rfl hlocks hP hD hS () rfl rfl d_Wo_shortSign_176
                      · replace hF := ifn w1_47 hF
                        by_cases w1_58 : (l0 : Int32).toInt = 58
                        · replace hF := ifp w1_58 hF
                          refine lv_lookup (off := 191) (tgt := 192) hx hb d_Wo_shortSign_1 (by decide +kernel) (by rw [w1_58]; decide) (by decide) ?_
                          refine lv_bipush (v := 34) hx hb d_Wo_shortSign_192 (by decide) ?_
                          replace hF := Option.some.inj hF
                          subst hF
                          exact zZret (post := (fun (r9 : Int32) (u9 : Unit) => r9 = 34)) (W1 := (fun (u9 : Unit) => [])) (v := 34) hx hb hr rfl hlocks hP hD hS () rfl rfl d_Wo_shortSign_194
                        · replace hF := ifn w1_58 hF
                          by_cases w1_59 : (l0 : Int32).toInt = 59
                          · replace hF := ifp w1_59 hF
                            refine lv_lookup (off := 194) (tgt := 195) hx hb d_Wo_shortSign_1 (by decide +kernel) (by rw [w1_59]; decide) (by decide) ?_
                            refine lv_bipush (v := 35) hx hb d_Wo_shortSign_195 (by decide) ?_
                            replace hF := Option.some.inj hF
                            subst hF
                            exact zZret (post := (fun (r9 : Int32) (u9 : Unit) => r9 = 35)) (W1 := (fun (u9 : Unit) => [])) (v := 35) hx hb hr rfl hlocks hP hD hS () rfl rfl d_Wo_shortSign_197
                          · replace hF := ifn w1_59 hF
                            by_cases w1_60 : (l0 : Int32).toInt = 60
                            · replace hF := ifp w1_60 hF
                              refine lv_lookup (off := 155) (tgt := 156) hx hb d_Wo_shortSign_1 (by decide +kernel) (by rw [w1_60]; decide) (by decide) ?_
                              refine lv_bipush (v := 22) hx hb d_Wo_shortSign_156 (by decide) ?_
                              replace hF := Option.some.inj hF
                              subst hF
                              exact zZret (post := (fun (r9 : Int32) (u9 : Unit) => r9 = 22)) (W1 := (fun (u9 : Unit) => [])) (v := 22) hx hb hr rfl hlocks hP hD hS () rfl rfl d_Wo_shortSign_158
                            · replace hF := ifn w1_60 hF
                              by_cases w1_61 : (l0 : Int32).toInt = 61
                              · replace hF := ifp w1_61 hF
                                refine lv_lookup (off := 161) (tgt := 162) hx hb d_Wo_shortSign_1 (by decide +kernel) (by rw [w1_61]; decide) (by decide) ?_
                                refine lv_bipush (v := 24) hx hb d_Wo_shortSign_162 (by decide) ?_
                                replace hF := Option.some.inj hF
                                subst hF
                                exact zZret (post := (fun (r9 : Int32) (u9 : Unit) => r9 = 24)) (W1 := (fun (u9 : Unit) => [])) (v := 24) hx hb hr rfl hlocks hP hD hS () rfl rfl d_Wo_shortSign_164
                              · replace hF := ifn w1_61 hF
                                by_cases w1_62 : (l0 : Int32).toInt = 62
                                · replace hF := ifp w1_62 hF
                                  refine lv_lookup (off := 158) (tgt := 159) hx hb d_Wo_shortSign_1 (by decide +kernel) (by rw [w1_62]; decide) (by decide) ?_
                                  refine lv_bipush (v := 23) hx hb d_Wo_shortSign_159 (by decide) ?_
                                  replace hF := Option.some.inj hF
                                  subst hF
                                  exact zZret (post := (fun (r9 : Int32) (u9 : Unit) => r9 = 23)) (W1 := (fun (u9 : Unit) => [])) (v := 23) hx hb hr rfl hlocks hP hD hS () rfl rfl d_Wo_shortSign_161
                                · replace hF := ifn w1_62 hF
                                  by_cases w1_63 : (l0 : Int32).toInt = 63
                                  · replace hF := ifp w1_63 hF
                                    refine lv_lookup (off := 188) (tgt := 189) hx hb d_Wo_shortSign_1 (by decide +kernel) (by rw [w1_63]; decide) (by decide) ?_
                                    refine lv_bipush (v := 33) hx hb d_Wo_shortSign_189 (by decide) ?_
                                    replace hF := Option.some.inj hF
                                    subst hF
                                    exact zZret (post := (fun (r9 : Int32) (u9 : Unit) => r9 = 33)) (W1 := (fun (u9 : Unit) => [])) (v := 33) hx hb hr rfl hlocks hP hD hS () rfl rfl d_Wo_shortSign_191
                                  · replace hF := ifn w1_63 hF
                                    by_cases w1_124 : (l0 : Int32).toInt = 124
                                    · replace hF := ifp w1_124 hF
                                      refine lv_lookup (off := 182) (tgt := 183) hx hb d_Wo_shortSign_1 (by decide +kernel) (by rw [w1_124]; decide) (by decide) ?_
                                      refine lv_bipush (v := 31) hx hb d_Wo_shortSign_183 (by decide) ?_
                                      replace hF := Option.some.inj hF
                                      subst hF
                                      exact zZret (post := (fun (r9 : Int32) (u9 : Unit) => r9 = 31)) (W1 := (fun (u9 : Unit) => [])) (v := 31) hx hb hr rfl hlocks hP hD hS () rfl rfl d_Wo_shortSign_185
                                    · replace hF := ifn w1_124 hF
                                      refine lv_lookup (off := 209) (tgt := 210) hx hb d_Wo_shortSign_1 (by decide +kernel) (by simp only [Op.lookupswitch.offset_cons, Op.lookupswitch.offset_nil]; rw [if_neg (fun h9 => w1_33 h9.symm), if_neg (fun h9 => w1_37 h9.symm), if_neg (fun h9 => w1_38 h9.symm), if_neg (fun h9 => w1_39 h9.symm), if_neg (fun h9 => w1_40 h9.symm), if_neg (fun h9 => w1_41 h9.symm), if_neg (fun h9 => w1_42 h9.symm), if_neg (fun h9 => w1_43 h9.symm), if_neg (fun h9 => w1_44 h9.symm), if_neg (fun h9 => w1_45 h9.symm), if_neg (fun h9 => w1_47 h9.symm), if_neg (fun h9 => w1_58 h9.symm), if_neg (fun h9 => w1_59 h9.symm), if_neg (fun h9 => w1_60 h9.symm), if_neg (fun h9 => w1_61 h9.symm), if_neg (fun h9 => w1_62 h9.symm), if_neg (fun h9 => w1_63 h9.symm), if_neg (fun h9 => w1_124 h9.symm)]) (by decide) ?_
                                      refine lv_iconst (v := 1) hx hb d_Wo_shortSign_210 (by decide) ?_
                                      replace hF := Option.some.inj hF
                                      subst hF
                                      exact zZret (post := (fun (r9 : Int32) (u9 : Unit) => r9 = 1)) (W1 := (fun (u9 : Unit) => [])) (v := 1) hx hb hr rfl hlocks hP hD hS () rfl rfl d_Wo_shortSign_211
set_option maxHeartbeats 4000000 in
set_option maxRecDepth 100000 in
theorem m_Wo_shortSign (l : Launch) (D : va_G) (tA : Nat → ClassId) (sz : Nat) (l0 : Int32) (out : Int32) (hF : f_Wo_shortSign l0 = some out) : zMi l ({ cls := "ChanceArena$Words", name := "shortSign", desc := "(C)I" } : Jvm.MethodName) (zW (Jvm.Cond.code ({ cls := "ChanceArena$Words", name := "shortSign", desc := "(C)I" } : Jvm.MethodName) prog_13_method_12_code (1 : Nat) (Option.some Jvm.ClassFile.FieldType.int))) { frames := 0, cells := 0, slots := 0, locals := 0 } [.int l0] D tA [] sz (fun (r9 : Int32) (u9 : Unit) => r9 = out) (fun (u9 : Unit) => []) 0 0 := by
  refine zOpen (l := l) (y := ({ cls := "ChanceArena$Words", name := "shortSign", desc := "(C)I" } : Jvm.MethodName)) (ws := zW (Jvm.Cond.code ({ cls := "ChanceArena$Words", name := "shortSign", desc := "(C)I" } : Jvm.MethodName) prog_13_method_12_code (1 : Nat) (Option.some Jvm.ClassFile.FieldType.int))) (rm := { frames := 0, cells := 0, slots := 0, locals := 0 }) (av := [.int l0]) (D := D) (tA := tA) (W0 := []) (Wm := []) (sz := sz) (mc := 0) (ms := 0) (fun A => va_Qi (fun (r9 : Int32) (u9 : Unit) => r9 = out) (zPost D A (fun (u9 : Unit) => [])) A) (lv := [(0, .int l0)]) (by decide) rfl (Nat.le_of_ble_eq_true rfl) rfl ?_
  intro p e s m below meth c A ls hx hb hr hml hh hg hown hlocks hnm hK hA hP hD0 hAw hS hl
  have hD := zD hD0 hAw
  exact b_Wo_shortSign_0 hx hb hr hml hh hg hown hlocks hK hA    _ _ _ hF  hP hD hS hl
def f_MG_clear (h0_rules : Int32) (h0_vars : Int32) (h0_target : Int32) (h0_commands : Int32) (h0_sort_size : Int32) (h0_place_size : Int32) (h0_from_size : Int32) (h0_value_size : Int32) (h0_firstPart_size : Int32) (h0_nextPart_size : Int32) (h0_setVar_size : Int32) (h0_setPlace_size : Int32) (h0_setRule_size : Int32) : Option (Int32 × Int32 × Int32 × Int32 × Int32 × Int32 × Int32 × Int32 × Int32 × Int32 × Int32 × Int32 × Int32) := some (0, 0, (-1), 0, 0, 0, 0, 0, 0, 0, 0, 0, 0)
set_option maxHeartbeats 4000000 in
set_option maxRecDepth 100000 in
theorem b_MG_clear_0 {p : Program} {l : Launch} {e : Env} {s : State} {m : MethodId} {args : Array Value} {below : List Frame} {meth : Method} {c : Code} {D : va_G} {tA : Nat → ClassId} {A : Nat → Prop} {h0 h0_sort h0_place h0_from h0_value h0_firstPart h0_nextPart h0_setVar h0_setPlace h0_setRule : Nat} {f0_h0 f0_h0_sort f0_h0_place f0_h0_from f0_h0_value f0_h0_firstPart f0_h0_nextPart f0_h0_setVar f0_h0_setPlace f0_h0_setRule : List Value} {h0_rules : Int32} {h0_vars : Int32} {h0_target : Int32} {h0_commands : Int32} {h0_sort_size : Int32} {h0_place_size : Int32} {h0_from_size : Int32} {h0_value_size : Int32} {h0_firstPart_size : Int32} {h0_nextPart_size : Int32} {h0_setVar_size : Int32} {h0_setPlace_size : Int32} {h0_setRule_size : Int32} {out : Int32 × Int32 × Int32 × Int32 × Int32 × Int32 × Int32 × Int32 × Int32 × Int32 × Int32 × Int32 × Int32} (hx : p.tables.exec = Jvm.exec) (hb : c.code = prog_17_method_2_code) (hr : meth.sig.returnType = (Option.none : Option Jvm.ClassFile.FieldType)) (hml : c.maxLocals = 1) (hh : zH s) (hg : ∀ w ∈ lw_R, w.before args s = true) (hown : s.vm.findClass "ChanceArenaModel$Game" = some m.cls) (hlocks : meth.locks = false) (hK : va_K D vwCl (zT tA) s) (hA : ∀ q, s.heap.size ≤ q → A q)  : ∀ (f_h0 : List Value) (f_h0_sort : List Value) (f_h0_place : List Value) (f_h0_from : List Value) (f_h0_value : List Value) (f_h0_firstPart : List Value) (f_h0_nextPart : List Value) (f_h0_setVar : List Value) (f_h0_setPlace : List Value) (f_h0_setRule : List Value) (H : Heap) (locs : List Loc) (ls : Array Slot), f_MG_clear h0_rules h0_vars h0_target h0_commands h0_sort_size h0_place_size h0_from_size h0_value_size h0_firstPart_size h0_nextPart_size h0_setVar_size h0_setPlace_size h0_setRule_size = some out → f_h0[0]? = some (.ref h0_sort) → f_h0[1]? = some (.ref h0_place) → f_h0[2]? = some (.ref h0_from) → f_h0[3]? = some (.ref h0_value) → f_h0[4]? = some (.ref h0_firstPart) → f_h0[5]? = some (.ref h0_nextPart) → f_h0[27]? = some (.ref h0_setVar) → f_h0[28]? = some (.ref h0_setPlace) → f_h0[29]? = some (.ref h0_setRule) → f_h0[6]? = some (.int h0_rules) → f_h0[12]? = some (.int h0_vars) → f_h0[17]? = some (.int h0_target) → f_h0[18]? = some (.int h0_commands) → Fr [6, 12, 17, 18] f0_h0 f_h0 → f_h0_sort[1]? = some (.int h0_sort_size) → Fr [1] f0_h0_sort f_h0_sort → f_h0_place[1]? = some (.int h0_place_size) → Fr [1] f0_h0_place f_h0_place → f_h0_from[1]? = some (.int h0_from_size) → Fr [1] f0_h0_from f_h0_from → f_h0_value[1]? = some (.int h0_value_size) → Fr [1] f0_h0_value f_h0_value → f_h0_firstPart[1]? = some (.int h0_firstPart_size) → Fr [1] f0_h0_firstPart f_h0_firstPart → f_h0_nextPart[1]? = some (.int h0_nextPart_size) → Fr [1] f0_h0_nextPart f_h0_nextPart → f_h0_setVar[1]? = some (.int h0_setVar_size) → Fr [1] f0_h0_setVar f_h0_setVar → f_h0_setPlace[1]? = some (.int h0_setPlace_size) → Fr [1] f0_h0_setPlace f_h0_setPlace → f_h0_setRule[1]? = some (.int h0_setRule_size) → Fr [1] f0_h0_setRule f_h0_setRule → va_P D vwCl [(h0, .inr (15, f_h0)), (h0_sort, .inr (14, f_h0_sort)), (h0_place, .inr (14, f_h0_place)), (h0_from, .inr (14, f_h0_from)), (h0_value, .inr (14, f_h0_value)), (h0_firstPart, .inr (14, f_h0_firstPart)), (h0_nextPart, .inr (14, f_h0_nextPart)), (h0_setVar, .inr (14, f_h0_setVar)), (h0_setPlace, .inr (14, f_h0_setPlace)), (h0_setRule, .inr (14, f_h0_setRule))] H → va_D A [(h0, .inr (15, f_h0)), (h0_sort, .inr (14, f_h0_sort)), (h0_place, .inr (14, f_h0_place)), (h0_from, .inr (14, f_h0_from)), (h0_value, .inr (14, f_h0_value)), (h0_firstPart, .inr (14, f_h0_firstPart)), (h0_nextPart, .inr (14, f_h0_nextPart)), (h0_setVar, .inr (14, f_h0_setVar)), (h0_setPlace, .inr (14, f_h0_setPlace)), (h0_setRule, .inr (14, f_h0_setRule))] → va_S A s.heap H locs → lv_has ls 1 [(0, .ref h0)] → W p l e { frames := 0, cells := 0, slots := 0, locals := 0 } s m args below meth c H locs 0 0 (MQ below (va_Qv (fun (u9 : List Value × List Value × List Value × List Value × List Value × List Value × List Value × List Value × List Value × List Value) => Fr [6, 12, 17, 18] f0_h0 u9.1 ∧ u9.1[6]? = some (.int out.1) ∧ u9.1[12]? = some (.int out.2.1) ∧ u9.1[17]? = some (.int out.2.2.1) ∧ u9.1[18]? = some (.int out.2.2.2.1) ∧ Fr [1] f0_h0_sort u9.2.1 ∧ u9.2.1[1]? = some (.int out.2.2.2.2.1) ∧ Fr [1] f0_h0_place u9.2.2.1 ∧ u9.2.2.1[1]? = some (.int out.2.2.2.2.2.1) ∧ Fr [1] f0_h0_from u9.2.2.2.1 ∧ u9.2.2.2.1[1]? = some (.int out.2.2.2.2.2.2.1) ∧ Fr [1] f0_h0_value u9.2.2.2.2.1 ∧ u9.2.2.2.2.1[1]? = some (.int out.2.2.2.2.2.2.2.1) ∧ Fr [1] f0_h0_firstPart u9.2.2.2.2.2.1 ∧ u9.2.2.2.2.2.1[1]? = some (.int out.2.2.2.2.2.2.2.2.1) ∧ Fr [1] f0_h0_nextPart u9.2.2.2.2.2.2.1 ∧ u9.2.2.2.2.2.2.1[1]? = some (.int out.2.2.2.2.2.2.2.2.2.1) ∧ Fr [1] f0_h0_setVar u9.2.2.2.2.2.2.2.1 ∧ u9.2.2.2.2.2.2.2.1[1]? = some (.int out.2.2.2.2.2.2.2.2.2.2.1) ∧ Fr [1] f0_h0_setPlace u9.2.2.2.2.2.2.2.2.1 ∧ u9.2.2.2.2.2.2.2.2.1[1]? = some (.int out.2.2.2.2.2.2.2.2.2.2.2.1) ∧ Fr [1] f0_h0_setRule u9.2.2.2.2.2.2.2.2.2 ∧ u9.2.2.2.2.2.2.2.2.2[1]? = some (.int out.2.2.2.2.2.2.2.2.2.2.2.2)) (zPost D A (fun (u9 : List Value × List Value × List Value × List Value × List Value × List Value × List Value × List Value × List Value × List Value) => [(h0, .inr (15, u9.1)), (h0_sort, .inr (14, u9.2.1)), (h0_place, .inr (14, u9.2.2.1)), (h0_from, .inr (14, u9.2.2.2.1)), (h0_value, .inr (14, u9.2.2.2.2.1)), (h0_firstPart, .inr (14, u9.2.2.2.2.2.1)), (h0_nextPart, .inr (14, u9.2.2.2.2.2.2.1)), (h0_setVar, .inr (14, u9.2.2.2.2.2.2.2.1)), (h0_setPlace, .inr (14, u9.2.2.2.2.2.2.2.2.1)), (h0_setRule, .inr (14, u9.2.2.2.2.2.2.2.2.2))])) A) args s 0 0 A) (F0 m 0 ls []) := by
  intro   f_h0 f_h0_sort f_h0_place f_h0_from f_h0_value f_h0_firstPart f_h0_nextPart f_h0_setVar f_h0_setPlace f_h0_setRule H locs ls hF q_h0_sort q_h0_place q_h0_from q_h0_value q_h0_firstPart q_h0_nextPart q_h0_setVar q_h0_setPlace q_h0_setRule q_h0_rules q_h0_vars q_h0_target q_h0_commands r_h0 q_h0_sort_size r_h0_sort q_h0_place_size r_h0_place q_h0_from_size r_h0_from q_h0_value_size r_h0_value q_h0_firstPart_size r_h0_firstPart q_h0_nextPart_size r_h0_nextPart q_h0_setVar_size r_h0_setVar q_h0_setPlace_size r_h0_setPlace q_h0_setRule_size r_h0_setRule hP hD hS hl
  replace hF : ((some (0, 0, (-1), 0, 0, 0, 0, 0, 0, 0, 0, 0, 0)) : Option (Int32 × Int32 × Int32 × Int32 × Int32 × Int32 × Int32 × Int32 × Int32 × Int32 × Int32 × Int32 × Int32)) = some out := hF
  refine lv_aload_n hx hb d_MG_clear_0 rfl (lv_at hl 0 rfl) ?_
  refine va_get (D := D) (ci := 15) (v := .ref h0_sort) (C := R_MG) (T := T_MG) (N := 30) hx hb hg i_MG hown hK hP 0 rfl rfl 0 (by decide) (hg _ k8_229) (fun _ h9 => h9) q_h0_sort d_MG_clear_1 ?_
  refine lv_iconst (v := 0) hx hb d_MG_clear_4 (by decide) ?_
  refine va_putN (D := D) (ci := 14) (v := .int 0) (ty := .int) (C := R_MN) (T := T_MN) (N := 2) hx hb hg i_MN t_MN o_MN n_MN hown hK hP hD hS 1 rfl rfl 1 (by decide) (hg _ k8_214) (fun _ h9 => h9) rfl (by decide +kernel) rfl rfl (zLen q_h0_sort_size) d_MG_clear_5 (fun H1 locs1 hP1 hD1 hS1 => ?_)
  clear hP hD hS
  replace hP1 : va_P D vwCl [(h0, .inr (15, f_h0)), (h0_sort, .inr (14, f_h0_sort.set 1 (.int 0))), (h0_place, .inr (14, f_h0_place)), (h0_from, .inr (14, f_h0_from)), (h0_value, .inr (14, f_h0_value)), (h0_firstPart, .inr (14, f_h0_firstPart)), (h0_nextPart, .inr (14, f_h0_nextPart)), (h0_setVar, .inr (14, f_h0_setVar)), (h0_setPlace, .inr (14, f_h0_setPlace)), (h0_setRule, .inr (14, f_h0_setRule))] _ := hP1
  replace hD1 : va_D A [(h0, .inr (15, f_h0)), (h0_sort, .inr (14, f_h0_sort.set 1 (.int 0))), (h0_place, .inr (14, f_h0_place)), (h0_from, .inr (14, f_h0_from)), (h0_value, .inr (14, f_h0_value)), (h0_firstPart, .inr (14, f_h0_firstPart)), (h0_nextPart, .inr (14, f_h0_nextPart)), (h0_setVar, .inr (14, f_h0_setVar)), (h0_setPlace, .inr (14, f_h0_setPlace)), (h0_setRule, .inr (14, f_h0_setRule))] := hD1
  refine lv_aload_n hx hb d_MG_clear_8 rfl (lv_at hl 0 rfl) ?_
  refine va_get (D := D) (ci := 15) (v := .ref h0_place) (C := R_MG) (T := T_MG) (N := 30) hx hb hg i_MG hown hK hP1 0 rfl rfl 1 (by decide) (hg _ k8_231) (fun _ h9 => h9) q_h0_place d_MG_clear_9 ?_
  refine lv_iconst (v := 0) hx hb d_MG_clear_12 (by decide) ?_
  refine va_putN (D := D) (ci := 14) (v := .int 0) (ty := .int) (C := R_MN) (T := T_MN) (N := 2) hx hb hg i_MN t_MN o_MN n_MN hown hK hP1 hD1 hS1 2 rfl rfl 1 (by decide) (hg _ k8_214) (fun _ h9 => h9) rfl (by decide +kernel) rfl rfl (zLen q_h0_place_size) d_MG_clear_13 (fun H2 locs2 hP2 hD2 hS2 => ?_)
  clear hP1 hD1 hS1
  replace hP2 : va_P D vwCl [(h0, .inr (15, f_h0)), (h0_sort, .inr (14, f_h0_sort.set 1 (.int 0))), (h0_place, .inr (14, f_h0_place.set 1 (.int 0))), (h0_from, .inr (14, f_h0_from)), (h0_value, .inr (14, f_h0_value)), (h0_firstPart, .inr (14, f_h0_firstPart)), (h0_nextPart, .inr (14, f_h0_nextPart)), (h0_setVar, .inr (14, f_h0_setVar)), (h0_setPlace, .inr (14, f_h0_setPlace)), (h0_setRule, .inr (14, f_h0_setRule))] _ := hP2
  replace hD2 : va_D A [(h0, .inr (15, f_h0)), (h0_sort, .inr (14, f_h0_sort.set 1 (.int 0))), (h0_place, .inr (14, f_h0_place.set 1 (.int 0))), (h0_from, .inr (14, f_h0_from)), (h0_value, .inr (14, f_h0_value)), (h0_firstPart, .inr (14, f_h0_firstPart)), (h0_nextPart, .inr (14, f_h0_nextPart)), (h0_setVar, .inr (14, f_h0_setVar)), (h0_setPlace, .inr (14, f_h0_setPlace)), (h0_setRule, .inr (14, f_h0_setRule))] := hD2
  refine lv_aload_n hx hb d_MG_clear_16 rfl (lv_at hl 0 rfl) ?_
  refine va_get (D := D) (ci := 15) (v := .ref h0_from) (C := R_MG) (T := T_MG) (N := 30) hx hb hg i_MG hown hK hP2 0 rfl rfl 2 (by decide) (hg _ k8_233) (fun _ h9 => h9) q_h0_from d_MG_clear_17 ?_
  refine lv_iconst (v := 0) hx hb d_MG_clear_20 (by decide) ?_
  refine va_putN (D := D) (ci := 14) (v := .int 0) (ty := .int) (C := R_MN) (T := T_MN) (N := 2) hx hb hg i_MN t_MN o_MN n_MN hown hK hP2 hD2 hS2 3 rfl rfl 1 (by decide) (hg _ k8_214) (fun _ h9 => h9) rfl (by decide +kernel) rfl rfl (zLen q_h0_from_size) d_MG_clear_21 (fun H3 locs3 hP3 hD3 hS3 => ?_)
  clear hP2 hD2 hS2
  replace hP3 : va_P D vwCl [(h0, .inr (15, f_h0)), (h0_sort, .inr (14, f_h0_sort.set 1 (.int 0))), (h0_place, .inr (14, f_h0_place.set 1 (.int 0))), (h0_from, .inr (14, f_h0_from.set 1 (.int 0))), (h0_value, .inr (14, f_h0_value)), (h0_firstPart, .inr (14, f_h0_firstPart)), (h0_nextPart, .inr (14, f_h0_nextPart)), (h0_setVar, .inr (14, f_h0_setVar)), (h0_setPlace, .inr (14, f_h0_setPlace)), (h0_setRule, .inr (14, f_h0_setRule))] _ := hP3
  replace hD3 : va_D A [(h0, .inr (15, f_h0)), (h0_sort, .inr (14, f_h0_sort.set 1 (.int 0))), (h0_place, .inr (14, f_h0_place.set 1 (.int 0))), (h0_from, .inr (14, f_h0_from.set 1 (.int 0))), (h0_value, .inr (14, f_h0_value)), (h0_firstPart, .inr (14, f_h0_firstPart)), (h0_nextPart, .inr (14, f_h0_nextPart)), (h0_setVar, .inr (14, f_h0_setVar)), (h0_setPlace, .inr (14, f_h0_setPlace)), (h0_setRule, .inr (14, f_h0_setRule))] := hD3
  refine lv_aload_n hx hb d_MG_clear_24 rfl (lv_at hl 0 rfl) ?_
  refine va_get (D := D) (ci := 15) (v := .ref h0_value) (C := R_MG) (T := T_MG) (N := 30) hx hb hg i_MG hown hK hP3 0 rfl rfl 3 (by decide) (hg _ k8_235) (fun _ h9 => h9) q_h0_value d_MG_clear_25 ?_
  refine lv_iconst (v := 0) hx hb d_MG_clear_28 (by decide) ?_
  refine va_putN (D := D) (ci := 14) (v := .int 0) (ty := .int) (C := R_MN) (T := T_MN) (N := 2) hx hb hg i_MN t_MN o_MN n_MN hown hK hP3 hD3 hS3 4 rfl rfl 1 (by decide) (hg _ k8_214) (fun _ h9 => h9) rfl (by decide +kernel) rfl rfl (zLen q_h0_value_size) d_MG_clear_29 (fun H4 locs4 hP4 hD4 hS4 => ?_)
  clear hP3 hD3 hS3
  replace hP4 : va_P D vwCl [(h0, .inr (15, f_h0)), (h0_sort, .inr (14, f_h0_sort.set 1 (.int 0))), (h0_place, .inr (14, f_h0_place.set 1 (.int 0))), (h0_from, .inr (14, f_h0_from.set 1 (.int 0))), (h0_value, .inr (14, f_h0_value.set 1 (.int 0))), (h0_firstPart, .inr (14, f_h0_firstPart)), (h0_nextPart, .inr (14, f_h0_nextPart)), (h0_setVar, .inr (14, f_h0_setVar)), (h0_setPlace, .inr (14, f_h0_setPlace)), (h0_setRule, .inr (14, f_h0_setRule))] _ := hP4
  replace hD4 : va_D A [(h0, .inr (15, f_h0)), (h0_sort, .inr (14, f_h0_sort.set 1 (.int 0))), (h0_place, .inr (14, f_h0_place.set 1 (.int 0))), (h0_from, .inr (14, f_h0_from.set 1 (.int 0))), (h0_value, .inr (14, f_h0_value.set 1 (.int 0))), (h0_firstPart, .inr (14, f_h0_firstPart)), (h0_nextPart, .inr (14, f_h0_nextPart)), (h0_setVar, .inr (14, f_h0_setVar)), (h0_setPlace, .inr (14, f_h0_setPlace)), (h0_setRule, .inr (14, f_h0_setRule))] := hD4
  refine lv_aload_n hx hb d_MG_clear_32 rfl (lv_at hl 0 rfl) ?_
  refine va_get (D := D) (ci := 15) (v := .ref h0_firstPart) (C := R_MG) (T := T_MG) (N := 30) hx hb hg i_MG hown hK hP4 0 rfl rfl 4 (by decide) (hg _ k8_237) (fun _ h9 => h9) q_h0_firstPart d_MG_clear_33 ?_
  refine lv_iconst (v := 0) hx hb d_MG_clear_36 (by decide) ?_
  refine va_putN (D := D) (ci := 14) (v := .int 0) (ty := .int) (C := R_MN) (T := T_MN) (N := 2) hx hb hg i_MN t_MN o_MN n_MN hown hK hP4 hD4 hS4 5 rfl rfl 1 (by decide) (hg _ k8_214) (fun _ h9 => h9) rfl (by decide +kernel) rfl rfl (zLen q_h0_firstPart_size) d_MG_clear_37 (fun H5 locs5 hP5 hD5 hS5 => ?_)
  clear hP4 hD4 hS4
  replace hP5 : va_P D vwCl [(h0, .inr (15, f_h0)), (h0_sort, .inr (14, f_h0_sort.set 1 (.int 0))), (h0_place, .inr (14, f_h0_place.set 1 (.int 0))), (h0_from, .inr (14, f_h0_from.set 1 (.int 0))), (h0_value, .inr (14, f_h0_value.set 1 (.int 0))), (h0_firstPart, .inr (14, f_h0_firstPart.set 1 (.int 0))), (h0_nextPart, .inr (14, f_h0_nextPart)), (h0_setVar, .inr (14, f_h0_setVar)), (h0_setPlace, .inr (14, f_h0_setPlace)), (h0_setRule, .inr (14, f_h0_setRule))] _ := hP5
  replace hD5 : va_D A [(h0, .inr (15, f_h0)), (h0_sort, .inr (14, f_h0_sort.set 1 (.int 0))), (h0_place, .inr (14, f_h0_place.set 1 (.int 0))), (h0_from, .inr (14, f_h0_from.set 1 (.int 0))), (h0_value, .inr (14, f_h0_value.set 1 (.int 0))), (h0_firstPart, .inr (14, f_h0_firstPart.set 1 (.int 0))), (h0_nextPart, .inr (14, f_h0_nextPart)), (h0_setVar, .inr (14, f_h0_setVar)), (h0_setPlace, .inr (14, f_h0_setPlace)), (h0_setRule, .inr (14, f_h0_setRule))] := hD5
  refine lv_aload_n hx hb d_MG_clear_40 rfl (lv_at hl 0 rfl) ?_
  refine va_get (D := D) (ci := 15) (v := .ref h0_nextPart) (C := R_MG) (T := T_MG) (N := 30) hx hb hg i_MG hown hK hP5 0 rfl rfl 5 (by decide) (hg _ k8_239) (fun _ h9 => h9) q_h0_nextPart d_MG_clear_41 ?_
  refine lv_iconst (v := 0) hx hb d_MG_clear_44 (by decide) ?_
  refine va_putN (D := D) (ci := 14) (v := .int 0) (ty := .int) (C := R_MN) (T := T_MN) (N := 2) hx hb hg i_MN t_MN o_MN n_MN hown hK hP5 hD5 hS5 6 rfl rfl 1 (by decide) (hg _ k8_214) (fun _ h9 => h9) rfl (by decide +kernel) rfl rfl (zLen q_h0_nextPart_size) d_MG_clear_45 (fun H6 locs6 hP6 hD6 hS6 => ?_)
  clear hP5 hD5 hS5
  replace hP6 : va_P D vwCl [(h0, .inr (15, f_h0)), (h0_sort, .inr (14, f_h0_sort.set 1 (.int 0))), (h0_place, .inr (14, f_h0_place.set 1 (.int 0))), (h0_from, .inr (14, f_h0_from.set 1 (.int 0))), (h0_value, .inr (14, f_h0_value.set 1 (.int 0))), (h0_firstPart, .inr (14, f_h0_firstPart.set 1 (.int 0))), (h0_nextPart, .inr (14, f_h0_nextPart.set 1 (.int 0))), (h0_setVar, .inr (14, f_h0_setVar)), (h0_setPlace, .inr (14, f_h0_setPlace)), (h0_setRule, .inr (14, f_h0_setRule))] _ := hP6
  replace hD6 : va_D A [(h0, .inr (15, f_h0)), (h0_sort, .inr (14, f_h0_sort.set 1 (.int 0))), (h0_place, .inr (14, f_h0_place.set 1 (.int 0))), (h0_from, .inr (14, f_h0_from.set 1 (.int 0))), (h0_value, .inr (14, f_h0_value.set 1 (.int 0))), (h0_firstPart, .inr (14, f_h0_firstPart.set 1 (.int 0))), (h0_nextPart, .inr (14, f_h0_nextPart.set 1 (.int 0))), (h0_setVar, .inr (14, f_h0_setVar)), (h0_setPlace, .inr (14, f_h0_setPlace)), (h0_setRule, .inr (14, f_h0_setRule))] := hD6
  refine lv_aload_n hx hb d_MG_clear_48 rfl (lv_at hl 0 rfl) ?_
  refine lv_iconst (v := 0) hx hb d_MG_clear_49 (by decide) ?_
  refine va_put (D := D) (ci := 15) (v := .int 0) (ty := .int) (C := R_MG) (T := T_MG) (N := 30) hx hb hg i_MG t_MG o_MG n_MG hown hK hP6 hD6 hS6 0 rfl rfl 6 (by decide) (hg _ k9_1) (fun _ h9 => h9) rfl (by decide +kernel) rfl rfl (zLen q_h0_rules) d_MG_clear_50 (fun H7 locs7 hP7 hD7 hS7 => ?_)
  clear hP6 hD6 hS6
  replace hP7 : va_P D vwCl [(h0, .inr (15, f_h0.set 6 (.int 0))), (h0_sort, .inr (14, f_h0_sort.set 1 (.int 0))), (h0_place, .inr (14, f_h0_place.set 1 (.int 0))), (h0_from, .inr (14, f_h0_from.set 1 (.int 0))), (h0_value, .inr (14, f_h0_value.set 1 (.int 0))), (h0_firstPart, .inr (14, f_h0_firstPart.set 1 (.int 0))), (h0_nextPart, .inr (14, f_h0_nextPart.set 1 (.int 0))), (h0_setVar, .inr (14, f_h0_setVar)), (h0_setPlace, .inr (14, f_h0_setPlace)), (h0_setRule, .inr (14, f_h0_setRule))] _ := hP7
  replace hD7 : va_D A [(h0, .inr (15, f_h0.set 6 (.int 0))), (h0_sort, .inr (14, f_h0_sort.set 1 (.int 0))), (h0_place, .inr (14, f_h0_place.set 1 (.int 0))), (h0_from, .inr (14, f_h0_from.set 1 (.int 0))), (h0_value, .inr (14, f_h0_value.set 1 (.int 0))), (h0_firstPart, .inr (14, f_h0_firstPart.set 1 (.int 0))), (h0_nextPart, .inr (14, f_h0_nextPart.set 1 (.int 0))), (h0_setVar, .inr (14, f_h0_setVar)), (h0_setPlace, .inr (14, f_h0_setPlace)), (h0_setRule, .inr (14, f_h0_setRule))] := hD7
  refine lv_aload_n hx hb d_MG_clear_53 rfl (lv_at hl 0 rfl) ?_
  refine lv_iconst (v := 0) hx hb d_MG_clear_54 (by decide) ?_
  refine va_put (D := D) (ci := 15) (v := .int 0) (ty := .int) (C := R_MG) (T := T_MG) (N := 30) hx hb hg i_MG t_MG o_MG n_MG hown hK hP7 hD7 hS7 0 rfl rfl 12 (by decide) (hg _ k9_13) (fun _ h9 => h9) rfl (by decide +kernel) rfl rfl (zLen (zSetN (by decide) q_h0_vars)) d_MG_clear_55 (fun H8 locs8 hP8 hD8 hS8 => ?_)
  clear hP7 hD7 hS7
  replace hP8 : va_P D vwCl [(h0, .inr (15, (f_h0.set 6 (.int 0)).set 12 (.int 0))), (h0_sort, .inr (14, f_h0_sort.set 1 (.int 0))), (h0_place, .inr (14, f_h0_place.set 1 (.int 0))), (h0_from, .inr (14, f_h0_from.set 1 (.int 0))), (h0_value, .inr (14, f_h0_value.set 1 (.int 0))), (h0_firstPart, .inr (14, f_h0_firstPart.set 1 (.int 0))), (h0_nextPart, .inr (14, f_h0_nextPart.set 1 (.int 0))), (h0_setVar, .inr (14, f_h0_setVar)), (h0_setPlace, .inr (14, f_h0_setPlace)), (h0_setRule, .inr (14, f_h0_setRule))] _ := hP8
  replace hD8 : va_D A [(h0, .inr (15, (f_h0.set 6 (.int 0)).set 12 (.int 0))), (h0_sort, .inr (14, f_h0_sort.set 1 (.int 0))), (h0_place, .inr (14, f_h0_place.set 1 (.int 0))), (h0_from, .inr (14, f_h0_from.set 1 (.int 0))), (h0_value, .inr (14, f_h0_value.set 1 (.int 0))), (h0_firstPart, .inr (14, f_h0_firstPart.set 1 (.int 0))), (h0_nextPart, .inr (14, f_h0_nextPart.set 1 (.int 0))), (h0_setVar, .inr (14, f_h0_setVar)), (h0_setPlace, .inr (14, f_h0_setPlace)), (h0_setRule, .inr (14, f_h0_setRule))] := hD8
  refine lv_aload_n hx hb d_MG_clear_58 rfl (lv_at hl 0 rfl) ?_
  refine lv_iconst (v := (-1)) hx hb d_MG_clear_59 (by decide) ?_
  refine va_put (D := D) (ci := 15) (v := .int (-1)) (ty := .int) (C := R_MG) (T := T_MG) (N := 30) hx hb hg i_MG t_MG o_MG n_MG hown hK hP8 hD8 hS8 0 rfl rfl 17 (by decide) (hg _ k9_23) (fun _ h9 => h9) rfl (by decide +kernel) rfl rfl (zLen (zSetN (by decide) (zSetN (by decide) q_h0_target))) d_MG_clear_60 (fun H9 locs9 hP9 hD9 hS9 => ?_)
  clear hP8 hD8 hS8
  replace hP9 : va_P D vwCl [(h0, .inr (15, ((f_h0.set 6 (.int 0)).set 12 (.int 0)).set 17 (.int (-1)))), (h0_sort, .inr (14, f_h0_sort.set 1 (.int 0))), (h0_place, .inr (14, f_h0_place.set 1 (.int 0))), (h0_from, .inr (14, f_h0_from.set 1 (.int 0))), (h0_value, .inr (14, f_h0_value.set 1 (.int 0))), (h0_firstPart, .inr (14, f_h0_firstPart.set 1 (.int 0))), (h0_nextPart, .inr (14, f_h0_nextPart.set 1 (.int 0))), (h0_setVar, .inr (14, f_h0_setVar)), (h0_setPlace, .inr (14, f_h0_setPlace)), (h0_setRule, .inr (14, f_h0_setRule))] _ := hP9
  replace hD9 : va_D A [(h0, .inr (15, ((f_h0.set 6 (.int 0)).set 12 (.int 0)).set 17 (.int (-1)))), (h0_sort, .inr (14, f_h0_sort.set 1 (.int 0))), (h0_place, .inr (14, f_h0_place.set 1 (.int 0))), (h0_from, .inr (14, f_h0_from.set 1 (.int 0))), (h0_value, .inr (14, f_h0_value.set 1 (.int 0))), (h0_firstPart, .inr (14, f_h0_firstPart.set 1 (.int 0))), (h0_nextPart, .inr (14, f_h0_nextPart.set 1 (.int 0))), (h0_setVar, .inr (14, f_h0_setVar)), (h0_setPlace, .inr (14, f_h0_setPlace)), (h0_setRule, .inr (14, f_h0_setRule))] := hD9
  refine lv_aload_n hx hb d_MG_clear_63 rfl (lv_at hl 0 rfl) ?_
  refine lv_iconst (v := 0) hx hb d_MG_clear_64 (by decide) ?_
  refine va_put (D := D) (ci := 15) (v := .int 0) (ty := .int) (C := R_MG) (T := T_MG) (N := 30) hx hb hg i_MG t_MG o_MG n_MG hown hK hP9 hD9 hS9 0 rfl rfl 18 (by decide) (hg _ k9_25) (fun _ h9 => h9) rfl (by decide +kernel) rfl rfl (zLen (zSetN (by decide) (zSetN (by decide) (zSetN (by decide) q_h0_commands)))) d_MG_clear_65 (fun H10 locs10 hP10 hD10 hS10 => ?_)
  clear hP9 hD9 hS9
  replace hP10 : va_P D vwCl [(h0, .inr (15, (((f_h0.set 6 (.int 0)).set 12 (.int 0)).set 17 (.int (-1))).set 18 (.int 0))), (h0_sort, .inr (14, f_h0_sort.set 1 (.int 0))), (h0_place, .inr (14, f_h0_place.set 1 (.int 0))), (h0_from, .inr (14, f_h0_from.set 1 (.int 0))), (h0_value, .inr (14, f_h0_value.set 1 (.int 0))), (h0_firstPart, .inr (14, f_h0_firstPart.set 1 (.int 0))), (h0_nextPart, .inr (14, f_h0_nextPart.set 1 (.int 0))), (h0_setVar, .inr (14, f_h0_setVar)), (h0_setPlace, .inr (14, f_h0_setPlace)), (h0_setRule, .inr (14, f_h0_setRule))] _ := hP10
  replace hD10 : va_D A [(h0, .inr (15, (((f_h0.set 6 (.int 0)).set 12 (.int 0)).set 17 (.int (-1))).set 18 (.int 0))), (h0_sort, .inr (14, f_h0_sort.set 1 (.int 0))), (h0_place, .inr (14, f_h0_place.set 1 (.int 0))), (h0_from, .inr (14, f_h0_from.set 1 (.int 0))), (h0_value, .inr (14, f_h0_value.set 1 (.int 0))), (h0_firstPart, .inr (14, f_h0_firstPart.set 1 (.int 0))), (h0_nextPart, .inr (14, f_h0_nextPart.set 1 (.int 0))), (h0_setVar, .inr (14, f_h0_setVar)), (h0_setPlace, .inr (14, f_h0_setPlace)), (h0_setRule, .inr (14, f_h0_setRule))] := hD10
  refine lv_aload_n hx hb d_MG_clear_68 rfl (lv_at hl 0 rfl) ?_
  refine va_get (D := D) (ci := 15) (v := .ref h0_setVar) (C := R_MG) (T := T_MG) (N := 30) hx hb hg i_MG hown hK hP10 0 rfl rfl 27 (by decide) (hg _ k9_43) (fun _ h9 => h9) (zSetN (by decide) (zSetN (by decide) (zSetN (by decide) (zSetN (by decide) q_h0_setVar)))) d_MG_clear_69 ?_
  refine lv_iconst (v := 0) hx hb d_MG_clear_72 (by decide) ?_
  refine va_putN (D := D) (ci := 14) (v := .int 0) (ty := .int) (C := R_MN) (T := T_MN) (N := 2) hx hb hg i_MN t_MN o_MN n_MN hown hK hP10 hD10 hS10 7 rfl rfl 1 (by decide) (hg _ k8_214) (fun _ h9 => h9) rfl (by decide +kernel) rfl rfl (zLen q_h0_setVar_size) d_MG_clear_73 (fun H11 locs11 hP11 hD11 hS11 => ?_)
  clear hP10 hD10 hS10
  replace hP11 : va_P D vwCl [(h0, .inr (15, (((f_h0.set 6 (.int 0)).set 12 (.int 0)).set 17 (.int (-1))).set 18 (.int 0))), (h0_sort, .inr (14, f_h0_sort.set 1 (.int 0))), (h0_place, .inr (14, f_h0_place.set 1 (.int 0))), (h0_from, .inr (14, f_h0_from.set 1 (.int 0))), (h0_value, .inr (14, f_h0_value.set 1 (.int 0))), (h0_firstPart, .inr (14, f_h0_firstPart.set 1 (.int 0))), (h0_nextPart, .inr (14, f_h0_nextPart.set 1 (.int 0))), (h0_setVar, .inr (14, f_h0_setVar.set 1 (.int 0))), (h0_setPlace, .inr (14, f_h0_setPlace)), (h0_setRule, .inr (14, f_h0_setRule))] _ := hP11
  replace hD11 : va_D A [(h0, .inr (15, (((f_h0.set 6 (.int 0)).set 12 (.int 0)).set 17 (.int (-1))).set 18 (.int 0))), (h0_sort, .inr (14, f_h0_sort.set 1 (.int 0))), (h0_place, .inr (14, f_h0_place.set 1 (.int 0))), (h0_from, .inr (14, f_h0_from.set 1 (.int 0))), (h0_value, .inr (14, f_h0_value.set 1 (.int 0))), (h0_firstPart, .inr (14, f_h0_firstPart.set 1 (.int 0))), (h0_nextPart, .inr (14, f_h0_nextPart.set 1 (.int 0))), (h0_setVar, .inr (14, f_h0_setVar.set 1 (.int 0))), (h0_setPlace, .inr (14, f_h0_setPlace)), (h0_setRule, .inr (14, f_h0_setRule))] := hD11
  refine lv_aload_n hx hb d_MG_clear_76 rfl (lv_at hl 0 rfl) ?_
  refine va_get (D := D) (ci := 15) (v := .ref h0_setPlace) (C := R_MG) (T := T_MG) (N := 30) hx hb hg i_MG hown hK hP11 0 rfl rfl 28 (by decide) (hg _ k9_45) (fun _ h9 => h9) (zSetN (by decide) (zSetN (by decide) (zSetN (by decide) (zSetN (by decide) q_h0_setPlace)))) d_MG_clear_77 ?_
  refine lv_iconst (v := 0) hx hb d_MG_clear_80 (by decide) ?_
  refine va_putN (D := D) (ci := 14) (v := .int 0) (ty := .int) (C := R_MN) (T := T_MN) (N := 2) hx hb hg i_MN t_MN o_MN n_MN hown hK hP11 hD11 hS11 8 rfl rfl 1 (by decide) (hg _ k8_214) (fun _ h9 => h9) rfl (by decide +kernel) rfl rfl (zLen q_h0_setPlace_size) d_MG_clear_81 (fun H12 locs12 hP12 hD12 hS12 => ?_)
  clear hP11 hD11 hS11
  replace hP12 : va_P D vwCl [(h0, .inr (15, (((f_h0.set 6 (.int 0)).set 12 (.int 0)).set 17 (.int (-1))).set 18 (.int 0))), (h0_sort, .inr (14, f_h0_sort.set 1 (.int 0))), (h0_place, .inr (14, f_h0_place.set 1 (.int 0))), (h0_from, .inr (14, f_h0_from.set 1 (.int 0))), (h0_value, .inr (14, f_h0_value.set 1 (.int 0))), (h0_firstPart, .inr (14, f_h0_firstPart.set 1 (.int 0))), (h0_nextPart, .inr (14, f_h0_nextPart.set 1 (.int 0))), (h0_setVar, .inr (14, f_h0_setVar.set 1 (.int 0))), (h0_setPlace, .inr (14, f_h0_setPlace.set 1 (.int 0))), (h0_setRule, .inr (14, f_h0_setRule))] _ := hP12
  replace hD12 : va_D A [(h0, .inr (15, (((f_h0.set 6 (.int 0)).set 12 (.int 0)).set 17 (.int (-1))).set 18 (.int 0))), (h0_sort, .inr (14, f_h0_sort.set 1 (.int 0))), (h0_place, .inr (14, f_h0_place.set 1 (.int 0))), (h0_from, .inr (14, f_h0_from.set 1 (.int 0))), (h0_value, .inr (14, f_h0_value.set 1 (.int 0))), (h0_firstPart, .inr (14, f_h0_firstPart.set 1 (.int 0))), (h0_nextPart, .inr (14, f_h0_nextPart.set 1 (.int 0))), (h0_setVar, .inr (14, f_h0_setVar.set 1 (.int 0))), (h0_setPlace, .inr (14, f_h0_setPlace.set 1 (.int 0))), (h0_setRule, .inr (14, f_h0_setRule))] := hD12
  refine lv_aload_n hx hb d_MG_clear_84 rfl (lv_at hl 0 rfl) ?_
  refine va_get (D := D) (ci := 15) (v := .ref h0_setRule) (C := R_MG) (T := T_MG) (N := 30) hx hb hg i_MG hown hK hP12 0 rfl rfl 29 (by decide) (hg _ k9_47) (fun _ h9 => h9) (zSetN (by decide) (zSetN (by decide) (zSetN (by decide) (zSetN (by decide) q_h0_setRule)))) d_MG_clear_85 ?_
  refine lv_iconst (v := 0) hx hb d_MG_clear_88 (by decide) ?_
  refine va_putN (D := D) (ci := 14) (v := .int 0) (ty := .int) (C := R_MN) (T := T_MN) (N := 2) hx hb hg i_MN t_MN o_MN n_MN hown hK hP12 hD12 hS12 9 rfl rfl 1 (by decide) (hg _ k8_214) (fun _ h9 => h9) rfl (by decide +kernel) rfl rfl (zLen q_h0_setRule_size) d_MG_clear_89 (fun H13 locs13 hP13 hD13 hS13 => ?_)
  clear hP12 hD12 hS12
  replace hP13 : va_P D vwCl [(h0, .inr (15, (((f_h0.set 6 (.int 0)).set 12 (.int 0)).set 17 (.int (-1))).set 18 (.int 0))), (h0_sort, .inr (14, f_h0_sort.set 1 (.int 0))), (h0_place, .inr (14, f_h0_place.set 1 (.int 0))), (h0_from, .inr (14, f_h0_from.set 1 (.int 0))), (h0_value, .inr (14, f_h0_value.set 1 (.int 0))), (h0_firstPart, .inr (14, f_h0_firstPart.set 1 (.int 0))), (h0_nextPart, .inr (14, f_h0_nextPart.set 1 (.int 0))), (h0_setVar, .inr (14, f_h0_setVar.set 1 (.int 0))), (h0_setPlace, .inr (14, f_h0_setPlace.set 1 (.int 0))), (h0_setRule, .inr (14, f_h0_setRule.set 1 (.int 0)))] _ := hP13
  replace hD13 : va_D A [(h0, .inr (15, (((f_h0.set 6 (.int 0)).set 12 (.int 0)).set 17 (.int (-1))).set 18 (.int 0))), (h0_sort, .inr (14, f_h0_sort.set 1 (.int 0))), (h0_place, .inr (14, f_h0_place.set 1 (.int 0))), (h0_from, .inr (14, f_h0_from.set 1 (.int 0))), (h0_value, .inr (14, f_h0_value.set 1 (.int 0))), (h0_firstPart, .inr (14, f_h0_firstPart.set 1 (.int 0))), (h0_nextPart, .inr (14, f_h0_nextPart.set 1 (.int 0))), (h0_setVar, .inr (14, f_h0_setVar.set 1 (.int 0))), (h0_setPlace, .inr (14, f_h0_setPlace.set 1 (.int 0))), (h0_setRule, .inr (14, f_h0_setRule.set 1 (.int 0)))] := hD13
  replace hF := Option.some.inj hF
  subst hF
  exact zVret (post := (fun (u9 : List Value × List Value × List Value × List Value × List Value × List Value × List Value × List Value × List Value × List Value) => Fr [6, 12, 17, 18] f0_h0 u9.1 ∧ u9.1[6]? = some (.int ((0, 0, (-1), 0, 0, 0, 0, 0, 0, 0, 0, 0, 0).1)) ∧ u9.1[12]? = some (.int ((0, 0, (-1), 0, 0, 0, 0, 0, 0, 0, 0, 0, 0).2.1)) ∧ u9.1[17]? = some (.int ((0, 0, (-1), 0, 0, 0, 0, 0, 0, 0, 0, 0, 0).2.2.1)) ∧ u9.1[18]? = some (.int ((0, 0, (-1), 0, 0, 0, 0, 0, 0, 0, 0, 0, 0).2.2.2.1)) ∧ Fr [1] f0_h0_sort u9.2.1 ∧ u9.2.1[1]? = some (.int ((0, 0, (-1), 0, 0, 0, 0, 0, 0, 0, 0, 0, 0).2.2.2.2.1)) ∧ Fr [1] f0_h0_place u9.2.2.1 ∧ u9.2.2.1[1]? = some (.int ((0, 0, (-1), 0, 0, 0, 0, 0, 0, 0, 0, 0, 0).2.2.2.2.2.1)) ∧ Fr [1] f0_h0_from u9.2.2.2.1 ∧ u9.2.2.2.1[1]? = some (.int ((0, 0, (-1), 0, 0, 0, 0, 0, 0, 0, 0, 0, 0).2.2.2.2.2.2.1)) ∧ Fr [1] f0_h0_value u9.2.2.2.2.1 ∧ u9.2.2.2.2.1[1]? = some (.int ((0, 0, (-1), 0, 0, 0, 0, 0, 0, 0, 0, 0, 0).2.2.2.2.2.2.2.1)) ∧ Fr [1] f0_h0_firstPart u9.2.2.2.2.2.1 ∧ u9.2.2.2.2.2.1[1]? = some (.int ((0, 0, (-1), 0, 0, 0, 0, 0, 0, 0, 0, 0, 0).2.2.2.2.2.2.2.2.1)) ∧ Fr [1] f0_h0_nextPart u9.2.2.2.2.2.2.1 ∧ u9.2.2.2.2.2.2.1[1]? = some (.int ((0, 0, (-1), 0, 0, 0, 0, 0, 0, 0, 0, 0, 0).2.2.2.2.2.2.2.2.2.1)) ∧ Fr [1] f0_h0_setVar u9.2.2.2.2.2.2.2.1 ∧ u9.2.2.2.2.2.2.2.1[1]? = some (.int ((0, 0, (-1), 0, 0, 0, 0, 0, 0, 0, 0, 0, 0).2.2.2.2.2.2.2.2.2.2.1)) ∧ Fr [1] f0_h0_setPlace u9.2.2.2.2.2.2.2.2.1 ∧ u9.2.2.2.2.2.2.2.2.1[1]? = some (.int ((0, 0, (-1), 0, 0, 0, 0, 0, 0, 0, 0, 0, 0).2.2.2.2.2.2.2.2.2.2.2.1)) ∧ Fr [1] f0_h0_setRule u9.2.2.2.2.2.2.2.2.2 ∧ u9.2.2.2.2.2.2.2.2.2[1]? = some (.int ((0, 0, (-1), 0, 0, 0, 0, 0, 0, 0, 0, 0, 0).2.2.2.2.2.2.2.2.2.2.2.2)))) (W1 := (fun (u9 : List Value × List Value × List Value × List Value × List Value × List Value × List Value × List Value × List Value × List Value) => [(h0, .inr (15, u9.1)), (h0_sort, .inr (14, u9.2.1)), (h0_place, .inr (14, u9.2.2.1)), (h0_from, .inr (14, u9.2.2.2.1)), (h0_value, .inr (14, u9.2.2.2.2.1)), (h0_firstPart, .inr (14, u9.2.2.2.2.2.1)), (h0_nextPart, .inr (14, u9.2.2.2.2.2.2.1)), (h0_setVar, .inr (14, u9.2.2.2.2.2.2.2.1)), (h0_setPlace, .inr (14, u9.2.2.2.2.2.2.2.2.1)), (h0_setRule, .inr (14, u9.2.2.2.2.2.2.2.2.2))])) hx hb hr hlocks hP13 hD13 hS13 ((((f_h0.set 6 (.int 0)).set 12 (.int 0)).set 17 (.int (-1))).set 18 (.int 0), f_h0_sort.set 1 (.int 0), f_h0_place.set 1 (.int 0), f_h0_from.set 1 (.int 0), f_h0_value.set 1 (.int 0), f_h0_firstPart.set 1 (.int 0), f_h0_nextPart.set 1 (.int 0), f_h0_setVar.set 1 (.int 0), f_h0_setPlace.set 1 (.int 0), f_h0_setRule.set 1 (.int 0)) ⟨(Fr.set (Fr.set (Fr.set (Fr.set r_h0 (by decide)) (by decide)) (by decide)) (by decide)), (zSetN (by decide) (zSetN (by decide) (zSetN (by decide) (zSetS q_h0_rules)))), (zSetN (by decide) (zSetN (by decide) (zSetS (zSetN (by decide) q_h0_vars)))), (zSetN (by decide) (zSetS (zSetN (by decide) (zSetN (by decide) q_h0_target)))), (zSetS (zSetN (by decide) (zSetN (by decide) (zSetN (by decide) q_h0_commands)))), (Fr.set r_h0_sort (by decide)), (zSetS q_h0_sort_size), (Fr.set r_h0_place (by decide)), (zSetS q_h0_place_size), (Fr.set r_h0_from (by decide)), (zSetS q_h0_from_size), (Fr.set r_h0_value (by decide)), (zSetS q_h0_value_size), (Fr.set r_h0_firstPart (by decide)), (zSetS q_h0_firstPart_size), (Fr.set r_h0_nextPart (by decide)), (zSetS q_h0_nextPart_size), (Fr.set r_h0_setVar (by decide)), (zSetS q_h0_setVar_size), (Fr.set r_h0_setPlace (by decide)), (zSetS q_h0_setPlace_size), (Fr.set r_h0_setRule (by decide)), (zSetS q_h0_setRule_size)⟩ rfl d_MG_clear_92
set_option maxHeartbeats 4000000 in
set_option maxRecDepth 100000 in
theorem m_MG_clear (l : Launch) (D : va_G) (tA : Nat → ClassId) (sz : Nat) (h0 h0_sort h0_place h0_from h0_value h0_firstPart h0_nextPart h0_setVar h0_setPlace h0_setRule : Nat) (f0_h0 f0_h0_sort f0_h0_place f0_h0_from f0_h0_value f0_h0_firstPart f0_h0_nextPart f0_h0_setVar f0_h0_setPlace f0_h0_setRule : List Value) (h0_rules : Int32) (h0_vars : Int32) (h0_target : Int32) (h0_commands : Int32) (h0_sort_size : Int32) (h0_place_size : Int32) (h0_from_size : Int32) (h0_value_size : Int32) (h0_firstPart_size : Int32) (h0_nextPart_size : Int32) (h0_setVar_size : Int32) (h0_setPlace_size : Int32) (h0_setRule_size : Int32) (q_h0_sort : f0_h0[0]? = some (.ref h0_sort)) (q_h0_place : f0_h0[1]? = some (.ref h0_place)) (q_h0_from : f0_h0[2]? = some (.ref h0_from)) (q_h0_value : f0_h0[3]? = some (.ref h0_value)) (q_h0_firstPart : f0_h0[4]? = some (.ref h0_firstPart)) (q_h0_nextPart : f0_h0[5]? = some (.ref h0_nextPart)) (q_h0_setVar : f0_h0[27]? = some (.ref h0_setVar)) (q_h0_setPlace : f0_h0[28]? = some (.ref h0_setPlace)) (q_h0_setRule : f0_h0[29]? = some (.ref h0_setRule)) (q_h0_rules : f0_h0[6]? = some (.int h0_rules)) (q_h0_vars : f0_h0[12]? = some (.int h0_vars)) (q_h0_target : f0_h0[17]? = some (.int h0_target)) (q_h0_commands : f0_h0[18]? = some (.int h0_commands)) (q_h0_sort_size : f0_h0_sort[1]? = some (.int h0_sort_size)) (q_h0_place_size : f0_h0_place[1]? = some (.int h0_place_size)) (q_h0_from_size : f0_h0_from[1]? = some (.int h0_from_size)) (q_h0_value_size : f0_h0_value[1]? = some (.int h0_value_size)) (q_h0_firstPart_size : f0_h0_firstPart[1]? = some (.int h0_firstPart_size)) (q_h0_nextPart_size : f0_h0_nextPart[1]? = some (.int h0_nextPart_size)) (q_h0_setVar_size : f0_h0_setVar[1]? = some (.int h0_setVar_size)) (q_h0_setPlace_size : f0_h0_setPlace[1]? = some (.int h0_setPlace_size)) (q_h0_setRule_size : f0_h0_setRule[1]? = some (.int h0_setRule_size)) (out : Int32 × Int32 × Int32 × Int32 × Int32 × Int32 × Int32 × Int32 × Int32 × Int32 × Int32 × Int32 × Int32) (hF : f_MG_clear h0_rules h0_vars h0_target h0_commands h0_sort_size h0_place_size h0_from_size h0_value_size h0_firstPart_size h0_nextPart_size h0_setVar_size h0_setPlace_size h0_setRule_size = some out) : zMv l ({ cls := "ChanceArenaModel$Game", name := "clear", desc := "()V" } : Jvm.MethodName) (zW (Jvm.Cond.code ({ cls := "ChanceArenaModel$Game", name := "clear", desc := "()V" } : Jvm.MethodName) prog_17_method_2_code (1 : Nat) (Option.none : Option Jvm.ClassFile.FieldType))) { frames := 0, cells := 0, slots := 0, locals := 0 } [.ref h0] D tA [(h0, .inr (15, f0_h0)), (h0_sort, .inr (14, f0_h0_sort)), (h0_place, .inr (14, f0_h0_place)), (h0_from, .inr (14, f0_h0_from)), (h0_value, .inr (14, f0_h0_value)), (h0_firstPart, .inr (14, f0_h0_firstPart)), (h0_nextPart, .inr (14, f0_h0_nextPart)), (h0_setVar, .inr (14, f0_h0_setVar)), (h0_setPlace, .inr (14, f0_h0_setPlace)), (h0_setRule, .inr (14, f0_h0_setRule))] sz (fun (u9 : List Value × List Value × List Value × List Value × List Value × List Value × List Value × List Value × List Value × List Value) => Fr [6, 12, 17, 18] f0_h0 u9.1 ∧ u9.1[6]? = some (.int out.1) ∧ u9.1[12]? = some (.int out.2.1) ∧ u9.1[17]? = some (.int out.2.2.1) ∧ u9.1[18]? = some (.int out.2.2.2.1) ∧ Fr [1] f0_h0_sort u9.2.1 ∧ u9.2.1[1]? = some (.int out.2.2.2.2.1) ∧ Fr [1] f0_h0_place u9.2.2.1 ∧ u9.2.2.1[1]? = some (.int out.2.2.2.2.2.1) ∧ Fr [1] f0_h0_from u9.2.2.2.1 ∧ u9.2.2.2.1[1]? = some (.int out.2.2.2.2.2.2.1) ∧ Fr [1] f0_h0_value u9.2.2.2.2.1 ∧ u9.2.2.2.2.1[1]? = some (.int out.2.2.2.2.2.2.2.1) ∧ Fr [1] f0_h0_firstPart u9.2.2.2.2.2.1 ∧ u9.2.2.2.2.2.1[1]? = some (.int out.2.2.2.2.2.2.2.2.1) ∧ Fr [1] f0_h0_nextPart u9.2.2.2.2.2.2.1 ∧ u9.2.2.2.2.2.2.1[1]? = some (.int out.2.2.2.2.2.2.2.2.2.1) ∧ Fr [1] f0_h0_setVar u9.2.2.2.2.2.2.2.1 ∧ u9.2.2.2.2.2.2.2.1[1]? = some (.int out.2.2.2.2.2.2.2.2.2.2.1) ∧ Fr [1] f0_h0_setPlace u9.2.2.2.2.2.2.2.2.1 ∧ u9.2.2.2.2.2.2.2.2.1[1]? = some (.int out.2.2.2.2.2.2.2.2.2.2.2.1) ∧ Fr [1] f0_h0_setRule u9.2.2.2.2.2.2.2.2.2 ∧ u9.2.2.2.2.2.2.2.2.2[1]? = some (.int out.2.2.2.2.2.2.2.2.2.2.2.2)) (fun (u9 : List Value × List Value × List Value × List Value × List Value × List Value × List Value × List Value × List Value × List Value) => [(h0, .inr (15, u9.1)), (h0_sort, .inr (14, u9.2.1)), (h0_place, .inr (14, u9.2.2.1)), (h0_from, .inr (14, u9.2.2.2.1)), (h0_value, .inr (14, u9.2.2.2.2.1)), (h0_firstPart, .inr (14, u9.2.2.2.2.2.1)), (h0_nextPart, .inr (14, u9.2.2.2.2.2.2.1)), (h0_setVar, .inr (14, u9.2.2.2.2.2.2.2.1)), (h0_setPlace, .inr (14, u9.2.2.2.2.2.2.2.2.1)), (h0_setRule, .inr (14, u9.2.2.2.2.2.2.2.2.2))]) 0 0 := by
  refine zOpen (l := l) (y := ({ cls := "ChanceArenaModel$Game", name := "clear", desc := "()V" } : Jvm.MethodName)) (ws := zW (Jvm.Cond.code ({ cls := "ChanceArenaModel$Game", name := "clear", desc := "()V" } : Jvm.MethodName) prog_17_method_2_code (1 : Nat) (Option.none : Option Jvm.ClassFile.FieldType))) (rm := { frames := 0, cells := 0, slots := 0, locals := 0 }) (av := [.ref h0]) (D := D) (tA := tA) (W0 := [(h0, .inr (15, f0_h0)), (h0_sort, .inr (14, f0_h0_sort)), (h0_place, .inr (14, f0_h0_place)), (h0_from, .inr (14, f0_h0_from)), (h0_value, .inr (14, f0_h0_value)), (h0_firstPart, .inr (14, f0_h0_firstPart)), (h0_nextPart, .inr (14, f0_h0_nextPart)), (h0_setVar, .inr (14, f0_h0_setVar)), (h0_setPlace, .inr (14, f0_h0_setPlace)), (h0_setRule, .inr (14, f0_h0_setRule))]) (Wm := [(h0, .inr (15, f0_h0)), (h0_sort, .inr (14, f0_h0_sort)), (h0_place, .inr (14, f0_h0_place)), (h0_from, .inr (14, f0_h0_from)), (h0_value, .inr (14, f0_h0_value)), (h0_firstPart, .inr (14, f0_h0_firstPart)), (h0_nextPart, .inr (14, f0_h0_nextPart)), (h0_setVar, .inr (14, f0_h0_setVar)), (h0_setPlace, .inr (14, f0_h0_setPlace)), (h0_setRule, .inr (14, f0_h0_setRule))]) (sz := sz) (mc := 0) (ms := 0) (fun A => va_Qv (fun (u9 : List Value × List Value × List Value × List Value × List Value × List Value × List Value × List Value × List Value × List Value) => Fr [6, 12, 17, 18] f0_h0 u9.1 ∧ u9.1[6]? = some (.int out.1) ∧ u9.1[12]? = some (.int out.2.1) ∧ u9.1[17]? = some (.int out.2.2.1) ∧ u9.1[18]? = some (.int out.2.2.2.1) ∧ Fr [1] f0_h0_sort u9.2.1 ∧ u9.2.1[1]? = some (.int out.2.2.2.2.1) ∧ Fr [1] f0_h0_place u9.2.2.1 ∧ u9.2.2.1[1]? = some (.int out.2.2.2.2.2.1) ∧ Fr [1] f0_h0_from u9.2.2.2.1 ∧ u9.2.2.2.1[1]? = some (.int out.2.2.2.2.2.2.1) ∧ Fr [1] f0_h0_value u9.2.2.2.2.1 ∧ u9.2.2.2.2.1[1]? = some (.int out.2.2.2.2.2.2.2.1) ∧ Fr [1] f0_h0_firstPart u9.2.2.2.2.2.1 ∧ u9.2.2.2.2.2.1[1]? = some (.int out.2.2.2.2.2.2.2.2.1) ∧ Fr [1] f0_h0_nextPart u9.2.2.2.2.2.2.1 ∧ u9.2.2.2.2.2.2.1[1]? = some (.int out.2.2.2.2.2.2.2.2.2.1) ∧ Fr [1] f0_h0_setVar u9.2.2.2.2.2.2.2.1 ∧ u9.2.2.2.2.2.2.2.1[1]? = some (.int out.2.2.2.2.2.2.2.2.2.2.1) ∧ Fr [1] f0_h0_setPlace u9.2.2.2.2.2.2.2.2.1 ∧ u9.2.2.2.2.2.2.2.2.1[1]? = some (.int out.2.2.2.2.2.2.2.2.2.2.2.1) ∧ Fr [1] f0_h0_setRule u9.2.2.2.2.2.2.2.2.2 ∧ u9.2.2.2.2.2.2.2.2.2[1]? = some (.int out.2.2.2.2.2.2.2.2.2.2.2.2)) (zPost D A (fun (u9 : List Value × List Value × List Value × List Value × List Value × List Value × List Value × List Value × List Value × List Value) => [(h0, .inr (15, u9.1)), (h0_sort, .inr (14, u9.2.1)), (h0_place, .inr (14, u9.2.2.1)), (h0_from, .inr (14, u9.2.2.2.1)), (h0_value, .inr (14, u9.2.2.2.2.1)), (h0_firstPart, .inr (14, u9.2.2.2.2.2.1)), (h0_nextPart, .inr (14, u9.2.2.2.2.2.2.1)), (h0_setVar, .inr (14, u9.2.2.2.2.2.2.2.1)), (h0_setPlace, .inr (14, u9.2.2.2.2.2.2.2.2.1)), (h0_setRule, .inr (14, u9.2.2.2.2.2.2.2.2.2))])) A) (lv := [(0, .ref h0)]) (by decide) rfl (Nat.le_of_ble_eq_true rfl) rfl ?_
  intro p e s m below meth c A ls hx hb hr hml hh hg hown hlocks hnm hK hA hP hD0 hAw hS hl
  have hD := zD hD0 hAw
  exact b_MG_clear_0 hx hb hr hml hh hg hown hlocks hK hA   f0_h0 f0_h0_sort f0_h0_place f0_h0_from f0_h0_value f0_h0_firstPart f0_h0_nextPart f0_h0_setVar f0_h0_setPlace f0_h0_setRule _ _ _ hF q_h0_sort q_h0_place q_h0_from q_h0_value q_h0_firstPart q_h0_nextPart q_h0_setVar q_h0_setPlace q_h0_setRule q_h0_rules q_h0_vars q_h0_target q_h0_commands Fr.rfl q_h0_sort_size Fr.rfl q_h0_place_size Fr.rfl q_h0_from_size Fr.rfl q_h0_value_size Fr.rfl q_h0_firstPart_size Fr.rfl q_h0_nextPart_size Fr.rfl q_h0_setVar_size Fr.rfl q_h0_setPlace_size Fr.rfl q_h0_setRule_size Fr.rfl hP hD hS hl
