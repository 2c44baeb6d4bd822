theorem k1_4 : (Jvm.Cond.initialized "ChanceArena$RuleReader") ∈ lw_R := zR (zk_1 _ (List.mem_of_getElem? (i := 4) (by decide +kernel))) rfl
theorem k1_5 : (Jvm.Cond.initialized "ChanceArena$Machine") ∈ lw_R := zR (zk_1 _ (List.mem_of_getElem? (i := 5) (by decide +kernel))) rfl
theorem k1_87 : (Jvm.Cond.code ({ cls := "ChanceArena$TextReader", name := "<init>", desc := "()V" } : Jvm.MethodName) prog_12_method_1_code (1 : Nat) (Option.none : Option Jvm.ClassFile.FieldType)) ∈ lw_R := zR (zk_1 _ (List.mem_of_getElem? (i := 87) (by decide +kernel))) rfl
theorem k1_88 : (Jvm.Cond.methodLink "ChanceArena$TextReader" (3 : Nat) ({ cls := "java/lang/Object", name := "<init>", desc := "()V" } : Jvm.MethodName)) ∈ lw_R := zR (zk_1 _ (List.mem_of_getElem? (i := 88) (by decide +kernel))) rfl
theorem k1_89 : (Jvm.Cond.classLink "ChanceArena$TextReader" (9 : Nat) "ChanceArena$RuleReader") ∈ lw_R := zR (zk_1 _ (List.mem_of_getElem? (i := 89) (by decide +kernel))) rfl
theorem k1_90 : (Jvm.Cond.instantiable "ChanceArena$RuleReader" (20 : Nat)) ∈ lw_R := zR (zk_1 _ (List.mem_of_getElem? (i := 90) (by decide +kernel))) rfl
theorem k1_91 : (Jvm.Cond.methodLinkNest "ChanceArena$TextReader" (11 : Nat) ({ cls := "ChanceArena$RuleReader", name := "<init>", desc := "()V" } : Jvm.MethodName) "ChanceArena") ∈ lw_R := zR (zk_1 _ (List.mem_of_getElem? (i := 91) (by decide +kernel))) rfl
theorem k1_92 : (Jvm.Cond.instanceMethod ({ cls := "ChanceArena$RuleReader", name := "<init>", desc := "()V" } : Jvm.MethodName)) ∈ lw_R := zR (zk_1 _ (List.mem_of_getElem? (i := 92) (by decide +kernel))) rfl
theorem k1_163 : (Jvm.Cond.classLink "ChanceArena$TextReader" (18 : Nat) "ChanceArena$Machine") ∈ lw_R := zR (zk_1 _ (List.mem_of_getElem? (i := 163) (by decide +kernel))) rfl
theorem k1_164 : (Jvm.Cond.instantiable "ChanceArena$Machine" (16 : Nat)) ∈ lw_R := zR (zk_1 _ (List.mem_of_getElem? (i := 164) (by decide +kernel))) rfl
theorem k1_165 : (Jvm.Cond.methodLinkNest "ChanceArena$TextReader" (20 : Nat) ({ cls := "ChanceArena$Machine", name := "<init>", desc := "()V" } : Jvm.MethodName) "ChanceArena") ∈ lw_R := zR (zk_1 _ (List.mem_of_getElem? (i := 165) (by decide +kernel))) rfl
theorem k1_166 : (Jvm.Cond.instanceMethod ({ cls := "ChanceArena$Machine", name := "<init>", desc := "()V" } : Jvm.MethodName)) ∈ lw_R := zR (zk_1 _ (List.mem_of_getElem? (i := 166) (by decide +kernel))) rfl
theorem k1_229 : (Jvm.Cond.fieldLink "ChanceArena$TextReader" (12 : Nat) "ChanceArena$TextReader" "rules" "LChanceArena$RuleReader;") ∈ lw_R := zR (zk_1 _ (List.mem_of_getElem? (i := 229) (by decide +kernel))) rfl
theorem k1_230 : (Jvm.Cond.fieldLink "ChanceArena$TextReader" (21 : Nat) "ChanceArena$TextReader" "machine" "LChanceArena$Machine;") ∈ lw_R := zR (zk_1 _ (List.mem_of_getElem? (i := 230) (by decide +kernel))) rfl
theorem k1_234 : (Jvm.Cond.fieldLink "ChanceArena$TextReader" (25 : Nat) "ChanceArena$TextReader" "ruleStart" "[I") ∈ lw_R := zR (zk_1 _ (List.mem_of_getElem? (i := 234) (by decide +kernel))) rfl
theorem k1_235 : (Jvm.Cond.fieldLink "ChanceArena$TextReader" (29 : Nat) "ChanceArena$TextReader" "rulePlace" "[I") ∈ lw_R := zR (zk_1 _ (List.mem_of_getElem? (i := 235) (by decide +kernel))) rfl
theorem k2_130 : (Jvm.Cond.code ({ cls := "ChanceArena$Game", name := "<init>", desc := "()V" } : Jvm.MethodName) prog_4_method_1_code (1 : Nat) (Option.none : Option Jvm.ClassFile.FieldType)) ∈ lw_R := zR (zk_2 _ (List.mem_of_getElem? (i := 130) (by decide +kernel))) rfl
theorem k2_131 : (Jvm.Cond.methodLink "ChanceArena$Game" (3 : Nat) ({ cls := "java/lang/Object", name := "<init>", desc := "()V" } : Jvm.MethodName)) ∈ lw_R := zR (zk_2 _ (List.mem_of_getElem? (i := 131) (by decide +kernel))) rfl
theorem k2_132 : (Jvm.Cond.classLink "ChanceArena$Game" (39 : Nat) "ChanceArena$Machine") ∈ lw_R := zR (zk_2 _ (List.mem_of_getElem? (i := 132) (by decide +kernel))) rfl
theorem k2_133 : (Jvm.Cond.methodLinkNest "ChanceArena$Game" (41 : Nat) ({ cls := "ChanceArena$Machine", name := "<init>", desc := "()V" } : Jvm.MethodName) "ChanceArena") ∈ lw_R := zR (zk_2 _ (List.mem_of_getElem? (i := 133) (by decide +kernel))) rfl
theorem k2_139 : (Jvm.Cond.fieldLink "ChanceArena$Game" (9 : Nat) "ChanceArena$Game" "numbers" "[I") ∈ lw_R := zR (zk_2 _ (List.mem_of_getElem? (i := 139) (by decide +kernel))) rfl
theorem k2_141 : (Jvm.Cond.fieldLink "ChanceArena$Game" (15 : Nat) "ChanceArena$Game" "sorts" "[I") ∈ lw_R := zR (zk_2 _ (List.mem_of_getElem? (i := 141) (by decide +kernel))) rfl
theorem k2_146 : (Jvm.Cond.fieldLink "ChanceArena$Game" (18 : Nat) "ChanceArena$Game" "told" "[I") ∈ lw_R := zR (zk_2 _ (List.mem_of_getElem? (i := 146) (by decide +kernel))) rfl
theorem k2_149 : (Jvm.Cond.fieldLink "ChanceArena$Game" (21 : Nat) "ChanceArena$Game" "firstCommand" "[I") ∈ lw_R := zR (zk_2 _ (List.mem_of_getElem? (i := 149) (by decide +kernel))) rfl
theorem k2_153 : (Jvm.Cond.fieldLink "ChanceArena$Game" (24 : Nat) "ChanceArena$Game" "textCommand" "[I") ∈ lw_R := zR (zk_2 _ (List.mem_of_getElem? (i := 153) (by decide +kernel))) rfl
theorem k2_155 : (Jvm.Cond.fieldLink "ChanceArena$Game" (27 : Nat) "ChanceArena$Game" "multiple" "[I") ∈ lw_R := zR (zk_2 _ (List.mem_of_getElem? (i := 155) (by decide +kernel))) rfl
theorem k2_159 : (Jvm.Cond.fieldLink "ChanceArena$Game" (30 : Nat) "ChanceArena$Game" "firstBranch" "[I") ∈ lw_R := zR (zk_2 _ (List.mem_of_getElem? (i := 159) (by decide +kernel))) rfl
theorem k2_163 : (Jvm.Cond.fieldLink "ChanceArena$Game" (33 : Nat) "ChanceArena$Game" "goal" "[I") ∈ lw_R := zR (zk_2 _ (List.mem_of_getElem? (i := 163) (by decide +kernel))) rfl
theorem k2_167 : (Jvm.Cond.fieldLink "ChanceArena$Game" (36 : Nat) "ChanceArena$Game" "weight" "[I") ∈ lw_R := zR (zk_2 _ (List.mem_of_getElem? (i := 167) (by decide +kernel))) rfl
theorem k2_178 : (Jvm.Cond.fieldLink "ChanceArena$Game" (42 : Nat) "ChanceArena$Game" "machine" "LChanceArena$Machine;") ∈ lw_R := zR (zk_2 _ (List.mem_of_getElem? (i := 178) (by decide +kernel))) rfl
theorem k2_179 : (Jvm.Cond.fieldLink "ChanceArena$Game" (46 : Nat) "ChanceArena$Game" "slots" "[I") ∈ lw_R := zR (zk_2 _ (List.mem_of_getElem? (i := 179) (by decide +kernel))) rfl
theorem k2_180 : (Jvm.Cond.fieldLink "ChanceArena$Game" (49 : Nat) "ChanceArena$Game" "chanceAbove" "[I") ∈ lw_R := zR (zk_2 _ (List.mem_of_getElem? (i := 180) (by decide +kernel))) rfl
theorem k2_181 : (Jvm.Cond.fieldLink "ChanceArena$Game" (52 : Nat) "ChanceArena$Game" "chanceBelow" "[I") ∈ lw_R := zR (zk_2 _ (List.mem_of_getElem? (i := 181) (by decide +kernel))) rfl
theorem d_TR_init_0 : decode prog_12_method_1_code 0 = .ok (.aload_n 0, 1) := dc9_42 (by decide +kernel)
theorem d_TR_init_1 : decode prog_12_method_1_code 1 = .ok (.invokespecial 3, 3) := dc9_183 (by decide +kernel)
theorem d_TR_init_4 : decode prog_12_method_1_code 4 = .ok (.aload_n 0, 1) := dc9_42 (by decide +kernel)
theorem d_TR_init_5 : decode prog_12_method_1_code 5 = .ok (.new 9, 3) := dc9_187 (by decide +kernel)
theorem d_TR_init_8 : decode prog_12_method_1_code 8 = .ok (.dup, 1) := dc9_89 (by decide +kernel)
theorem d_TR_init_9 : decode prog_12_method_1_code 9 = .ok (.invokespecial 11, 3) := dc9_183 (by decide +kernel)
theorem d_TR_init_12 : decode prog_12_method_1_code 12 = .ok (.putfield 12, 3) := dc9_181 (by decide +kernel)
theorem d_TR_init_15 : decode prog_12_method_1_code 15 = .ok (.aload_n 0, 1) := dc9_42 (by decide +kernel)
theorem d_TR_init_16 : decode prog_12_method_1_code 16 = .ok (.new 18, 3) := dc9_187 (by decide +kernel)
theorem d_TR_init_19 : decode prog_12_method_1_code 19 = .ok (.dup, 1) := dc9_89 (by decide +kernel)
theorem d_TR_init_20 : decode prog_12_method_1_code 20 = .ok (.invokespecial 20, 3) := dc9_183 (by decide +kernel)
theorem d_TR_init_23 : decode prog_12_method_1_code 23 = .ok (.putfield 21, 3) := dc9_181 (by decide +kernel)
theorem d_TR_init_26 : decode prog_12_method_1_code 26 = .ok (.aload_n 0, 1) := dc9_42 (by decide +kernel)
theorem d_TR_init_27 : decode prog_12_method_1_code 27 = .ok (.iconst 3, 1) := dc9_6 (by decide +kernel)
theorem d_TR_init_28 : decode prog_12_method_1_code 28 = .ok (.newarray .int, 2) := by decide +kernel
theorem d_TR_init_30 : decode prog_12_method_1_code 30 = .ok (.putfield 25, 3) := dc9_181 (by decide +kernel)
theorem d_TR_init_33 : decode prog_12_method_1_code 33 = .ok (.aload_n 0, 1) := dc9_42 (by decide +kernel)
theorem d_TR_init_34 : decode prog_12_method_1_code 34 = .ok (.iconst 3, 1) := dc9_6 (by decide +kernel)
theorem d_TR_init_35 : decode prog_12_method_1_code 35 = .ok (.newarray .int, 2) := by decide +kernel
theorem d_TR_init_37 : decode prog_12_method_1_code 37 = .ok (.putfield 29, 3) := dc9_181 (by decide +kernel)
theorem d_TR_init_40 : decode prog_12_method_1_code 40 = .ok (.return_, 1) := dc9_177 (by decide +kernel)
theorem d_Ga_init_0 : decode prog_4_method_1_code 0 = .ok (.aload_n 0, 1) := dc9_42 (by decide +kernel)
theorem d_Ga_init_1 : decode prog_4_method_1_code 1 = .ok (.invokespecial 3, 3) := dc9_183 (by decide +kernel)
theorem d_Ga_init_4 : decode prog_4_method_1_code 4 = .ok (.aload_n 0, 1) := dc9_42 (by decide +kernel)
theorem d_Ga_init_5 : decode prog_4_method_1_code 5 = .ok (.sipush 6144, 3) := dc9_17 (by decide +kernel)
theorem d_Ga_init_8 : decode prog_4_method_1_code 8 = .ok (.newarray .int, 2) := by decide +kernel
theorem d_Ga_init_10 : decode prog_4_method_1_code 10 = .ok (.putfield 9, 3) := dc9_181 (by decide +kernel)
theorem d_Ga_init_13 : decode prog_4_method_1_code 13 = .ok (.aload_n 0, 1) := dc9_42 (by decide +kernel)
theorem d_Ga_init_14 : decode prog_4_method_1_code 14 = .ok (.sipush 512, 3) := dc9_17 (by decide +kernel)
theorem d_Ga_init_17 : decode prog_4_method_1_code 17 = .ok (.newarray .int, 2) := by decide +kernel
theorem d_Ga_init_19 : decode prog_4_method_1_code 19 = .ok (.putfield 15, 3) := dc9_181 (by decide +kernel)
theorem d_Ga_init_22 : decode prog_4_method_1_code 22 = .ok (.aload_n 0, 1) := dc9_42 (by decide +kernel)
theorem d_Ga_init_23 : decode prog_4_method_1_code 23 = .ok (.sipush 512, 3) := dc9_17 (by decide +kernel)
theorem d_Ga_init_26 : decode prog_4_method_1_code 26 = .ok (.newarray .int, 2) := by decide +kernel
theorem d_Ga_init_28 : decode prog_4_method_1_code 28 = .ok (.putfield 18, 3) := dc9_181 (by decide +kernel)
theorem d_Ga_init_31 : decode prog_4_method_1_code 31 = .ok (.aload_n 0, 1) := dc9_42 (by decide +kernel)
theorem d_Ga_init_32 : decode prog_4_method_1_code 32 = .ok (.sipush 513, 3) := dc9_17 (by decide +kernel)
theorem d_Ga_init_35 : decode prog_4_method_1_code 35 = .ok (.newarray .int, 2) := by decide +kernel
theorem d_Ga_init_37 : decode prog_4_method_1_code 37 = .ok (.putfield 21, 3) := dc9_181 (by decide +kernel)
theorem d_Ga_init_40 : decode prog_4_method_1_code 40 = .ok (.aload_n 0, 1) := dc9_42 (by decide +kernel)
theorem d_Ga_init_41 : decode prog_4_method_1_code 41 = .ok (.sipush 4097, 3) := dc9_17 (by decide +kernel)
theorem d_Ga_init_44 : decode prog_4_method_1_code 44 = .ok (.newarray .int, 2) := by decide +kernel
theorem d_Ga_init_46 : decode prog_4_method_1_code 46 = .ok (.putfield 24, 3) := dc9_181 (by decide +kernel)
theorem d_Ga_init_49 : decode prog_4_method_1_code 49 = .ok (.aload_n 0, 1) := dc9_42 (by decide +kernel)
theorem d_Ga_init_50 : decode prog_4_method_1_code 50 = .ok (.sipush 4097, 3) := dc9_17 (by decide +kernel)
theorem d_Ga_init_53 : decode prog_4_method_1_code 53 = .ok (.newarray .int, 2) := by decide +kernel
theorem d_Ga_init_55 : decode prog_4_method_1_code 55 = .ok (.putfield 27, 3) := dc9_181 (by decide +kernel)
theorem d_Ga_init_58 : decode prog_4_method_1_code 58 = .ok (.aload_n 0, 1) := dc9_42 (by decide +kernel)
theorem d_Ga_init_59 : decode prog_4_method_1_code 59 = .ok (.sipush 4098, 3) := dc9_17 (by decide +kernel)
theorem d_Ga_init_62 : decode prog_4_method_1_code 62 = .ok (.newarray .int, 2) := by decide +kernel
theorem d_Ga_init_64 : decode prog_4_method_1_code 64 = .ok (.putfield 30, 3) := dc9_181 (by decide +kernel)
theorem d_Ga_init_67 : decode prog_4_method_1_code 67 = .ok (.aload_n 0, 1) := dc9_42 (by decide +kernel)
theorem d_Ga_init_68 : decode prog_4_method_1_code 68 = .ok (.sipush 4096, 3) := dc9_17 (by decide +kernel)
theorem d_Ga_init_71 : decode prog_4_method_1_code 71 = .ok (.newarray .int, 2) := by decide +kernel
theorem d_Ga_init_73 : decode prog_4_method_1_code 73 = .ok (.putfield 33, 3) := dc9_181 (by decide +kernel)
theorem d_Ga_init_76 : decode prog_4_method_1_code 76 = .ok (.aload_n 0, 1) := dc9_42 (by decide +kernel)
theorem d_Ga_init_77 : decode prog_4_method_1_code 77 = .ok (.sipush 4096, 3) := dc9_17 (by decide +kernel)
theorem d_Ga_init_80 : decode prog_4_method_1_code 80 = .ok (.newarray .int, 2) := by decide +kernel
theorem d_Ga_init_82 : decode prog_4_method_1_code 82 = .ok (.putfield 36, 3) := dc9_181 (by decide +kernel)
theorem d_Ga_init_85 : decode prog_4_method_1_code 85 = .ok (.aload_n 0, 1) := dc9_42 (by decide +kernel)
theorem d_Ga_init_86 : decode prog_4_method_1_code 86 = .ok (.new 39, 3) := dc9_187 (by decide +kernel)
theorem d_Ga_init_89 : decode prog_4_method_1_code 89 = .ok (.dup, 1) := dc9_89 (by decide +kernel)
theorem d_Ga_init_90 : decode prog_4_method_1_code 90 = .ok (.invokespecial 41, 3) := dc9_183 (by decide +kernel)
theorem d_Ga_init_93 : decode prog_4_method_1_code 93 = .ok (.putfield 42, 3) := dc9_181 (by decide +kernel)
theorem d_Ga_init_96 : decode prog_4_method_1_code 96 = .ok (.aload_n 0, 1) := dc9_42 (by decide +kernel)
theorem d_Ga_init_97 : decode prog_4_method_1_code 97 = .ok (.sipush 1024, 3) := dc9_17 (by decide +kernel)
theorem d_Ga_init_100 : decode prog_4_method_1_code 100 = .ok (.newarray .int, 2) := by decide +kernel
theorem d_Ga_init_102 : decode prog_4_method_1_code 102 = .ok (.putfield 46, 3) := dc9_181 (by decide +kernel)
theorem d_Ga_init_105 : decode prog_4_method_1_code 105 = .ok (.aload_n 0, 1) := dc9_42 (by decide +kernel)
theorem d_Ga_init_106 : decode prog_4_method_1_code 106 = .ok (.bipush 8, 2) := dc9_16 (by decide +kernel)
theorem d_Ga_init_108 : decode prog_4_method_1_code 108 = .ok (.newarray .int, 2) := by decide +kernel
theorem d_Ga_init_110 : decode prog_4_method_1_code 110 = .ok (.putfield 49, 3) := dc9_181 (by decide +kernel)
theorem d_Ga_init_113 : decode prog_4_method_1_code 113 = .ok (.aload_n 0, 1) := dc9_42 (by decide +kernel)
theorem d_Ga_init_114 : decode prog_4_method_1_code 114 = .ok (.bipush 8, 2) := dc9_16 (by decide +kernel)
theorem d_Ga_init_116 : decode prog_4_method_1_code 116 = .ok (.newarray .int, 2) := by decide +kernel
theorem d_Ga_init_118 : decode prog_4_method_1_code 118 = .ok (.putfield 52, 3) := dc9_181 (by decide +kernel)
theorem d_Ga_init_121 : decode prog_4_method_1_code 121 = .ok (.return_, 1) := dc9_177 (by decide +kernel)
abbrev S_TR : Type := (Nat × S_RR) × (Nat × S_Ma) × Nat × Nat
def w_TR (tA : Nat → ClassId) (h0 : Nat) (u : S_TR) : va_W := match u with
  | ((q5, u5), (q16, u16), q28, q35) => (h0, .inr (2, [.ref q5, .ref q16, .null, .int 0, .int 0, .ref q28, .ref q35, .int 0, .int 0])) :: ([] ++ w_RR tA q5 u5 ++ w_Ma tA q16 u16 ++ [(q28, .inl (tA 0, 3, .inl (fun _ => 0)))] ++ [(q35, .inl (tA 0, 3, .inl (fun _ => 0)))])
theorem f_TR : ∀ j, j < 9 → defaultValue (t_TR j) = vp_V [.null, .null, .null, .int 0, .int 0, .null, .null, .int 0, .int 0] j := by decide +kernel
set_option maxHeartbeats 4000000 in
set_option maxRecDepth 100000 in
theorem c_TR_init (l : Launch) (D : va_G) (tA : Nat → ClassId) (h0 sz : Nat) : zMv l ({ cls := "ChanceArena$TextReader", name := "<init>", desc := "()V" } : Jvm.MethodName) (zW (Jvm.Cond.code ({ cls := "ChanceArena$TextReader", name := "<init>", desc := "()V" } : Jvm.MethodName) prog_12_method_1_code (1 : Nat) (Option.none : Option Jvm.ClassFile.FieldType))) { frames := 2, cells := 22, slots := 2464, locals := 32 } [.ref h0] D tA [(h0, .inr (2, [.null, .null, .null, .int 0, .int 0, .null, .null, .int 0, .int 0]))] sz (fun _ : S_TR => True) (w_TR tA h0) 22 2464 := by
  refine zOpen (fun A => va_Qv _ (zPost D A (w_TR tA h0)) A) (lv := [(0, .ref h0)]) (by decide) rfl (Nat.le_of_ble_eq_true rfl) rfl ?_
  intro p e s m below meth c A ls hx hb hr hml hh hg hown hlocks hnm hK hA hP hD0 hAw hS hl
  have hD := zD hD0 hAw
  refine lv_aload_n hx hb d_TR_init_0 rfl (lv_at hl 0 rfl) ?_
  refine W.objInit hx hb hown (hg _ k1_88) (hg _ k1_46) (hg _ k1_47) rfl (by rw [hml]; exact hl.1) rfl d_TR_init_1 (Nat.le_of_ble_eq_true rfl) (Nat.le_of_ble_eq_true rfl) ?_
  refine lv_aload_n hx hb d_TR_init_4 rfl (lv_at hl 0 rfl) ?_
  refine va_new (ci := 3) (fs := [.null, .null, .int 0, .int 0, .int 0, .int 0, .int 0, .int 0, .null, .null, .null, .null, .int 0, .null, .int 0, .null, .null, .null, .null, .int 0]) (C := R_RR) (T := T_RR) (N := 20) hx hb hg i_RR t_RR o_RR hown (hg _ k1_89) (hg _ k1_90) (hg _ k1_4) hK hP hD hS hA rfl f_RR (Nat.le_of_ble_eq_true rfl) (Nat.le_of_ble_eq_true rfl) d_TR_init_5 (fun q5 H1 hP1 hD1 hS1 => ?_)
  clear hP hD hS
  refine lv_dup hx hb d_TR_init_8 rfl ?_
  refine zInit hP1 hD1 hS1 hA (va_runIN (As := []) (rest := [.ref q5, .ref h0]) ⟨hx, hb, hml, hown, hg⟩ (c_RR_init l D tA q5 H1.size) ⟨va_cnB 0 hg (zGood k1_93 rfl) rfl rfl rfl (va_Nw.of rfl (hg _ k1_91)) (hg _ k1_4) (by decide +kernel) ⟨(Nat.le_of_ble_eq_true rfl), (Nat.le_of_ble_eq_true rfl)⟩, rfl, hg _ k1_92⟩ (zPreI hh hK hP1 hD1) rfl rfl hl.1 rfl (lv_room (Nat.le_of_ble_eq_true rfl)) d_TR_init_9 ⟨(Nat.le_of_ble_eq_true rfl), (Nat.le_of_ble_eq_true rfl)⟩) (fun u5 H2 locs2 _ hP2 hD2 hS2 => ?_)
  clear hP1 hD1 hS1
  refine zCons (fun T9 e9 hP3 hD3 => ?_) hP2 hD2
  clear hP2 hD2
  refine va_putF (D := D) (ci := 2) (v := .ref q5) (ty := .object "ChanceArena$RuleReader") (C := R_TR) (T := T_TR) (N := 9) hx hb hg i_TR t_TR o_TR n_TR hown hK hP3 hD3 hS2 0 rfl rfl 0 (by decide) (hg _ k1_229) (fun _ h9 => h9) rfl hnm rfl (by decide +kernel) rfl rfl (Nat.le_of_ble_eq_true rfl) d_TR_init_12 (fun H4 locs4 hP4 hD4 hS4 => ?_)
  clear hP3 hD3 hS2
  replace hP4 : va_P D vwCl ((h0, .inr (2, [.ref q5, .null, .null, .int 0, .int 0, .null, .null, .int 0, .int 0])) :: T9) _ := hP4
  replace hD4 : va_D A ((h0, .inr (2, [.ref q5, .null, .null, .int 0, .int 0, .null, .null, .int 0, .int 0])) :: T9) := hD4
  refine lv_aload_n hx hb d_TR_init_15 rfl (lv_at hl 0 rfl) ?_
  refine va_new (ci := 4) (fs := [.null, .int 0, .int 0, .null, .int 0, .null, .null, .null, .int 0, .int 0, .null, .null, .null, .null, .null, .int 0]) (C := R_Ma) (T := T_Ma) (N := 16) hx hb hg i_Ma t_Ma o_Ma hown (hg _ k1_163) (hg _ k1_164) (hg _ k1_5) hK hP4 hD4 hS4 hA rfl f_Ma (Nat.le_of_ble_eq_true rfl) (Nat.le_of_ble_eq_true rfl) d_TR_init_16 (fun q16 H5 hP5 hD5 hS5 => ?_)
  clear hP4 hD4 hS4
  refine lv_dup hx hb d_TR_init_19 rfl ?_
  refine zInit hP5 hD5 hS5 hA (va_runIN (As := []) (rest := [.ref q16, .ref h0]) ⟨hx, hb, hml, hown, hg⟩ (c_Ma_init l D tA q16 H5.size) ⟨va_cnB 0 hg (zGood k1_167 rfl) rfl rfl rfl (va_Nw.of rfl (hg _ k1_165)) (hg _ k1_5) (by decide +kernel) ⟨(Nat.le_of_ble_eq_true rfl), (Nat.le_of_ble_eq_true rfl)⟩, rfl, hg _ k1_166⟩ (zPreI hh hK hP5 hD5) rfl rfl hl.1 rfl (lv_room (Nat.le_of_ble_eq_true rfl)) d_TR_init_20 ⟨(Nat.le_of_ble_eq_true rfl), (Nat.le_of_ble_eq_true rfl)⟩) (fun u16 H6 locs6 _ hP6 hD6 hS6 => ?_)
  clear hP5 hD5 hS5
  refine zCons (fun T20 e20 hP7 hD7 => ?_) hP6 hD6
  clear hP6 hD6
  refine va_putF (D := D) (ci := 2) (v := .ref q16) (ty := .object "ChanceArena$Machine") (C := R_TR) (T := T_TR) (N := 9) hx hb hg i_TR t_TR o_TR n_TR hown hK hP7 hD7 hS6 0 rfl rfl 1 (by decide) (hg _ k1_230) (fun _ h9 => h9) rfl hnm rfl (by decide +kernel) rfl rfl (Nat.le_of_ble_eq_true rfl) d_TR_init_23 (fun H8 locs8 hP8 hD8 hS8 => ?_)
  clear hP7 hD7 hS6
  replace hP8 : va_P D vwCl ((h0, .inr (2, [.ref q5, .ref q16, .null, .int 0, .int 0, .null, .null, .int 0, .int 0])) :: T20) _ := hP8
  replace hD8 : va_D A ((h0, .inr (2, [.ref q5, .ref q16, .null, .int 0, .int 0, .null, .null, .int 0, .int 0])) :: T20) := hD8
  refine lv_aload_n hx hb d_TR_init_26 rfl (lv_at hl 0 rfl) ?_
  refine lv_iconst (v := 3) hx hb d_TR_init_27 (by decide) ?_
  refine zNewa (atype := .int) (ty := .int) (a0 := (3, .inl (fun _ => 0))) (N' := 3) hx hb rfl (hg _ k1_82) hK hP8 hD8 hS8 hA 0 rfl (fun _ h => by cases h) (fun _ => rfl) (by decide) (by decide) (by decide) (Nat.le_of_ble_eq_true rfl) (Nat.le_of_ble_eq_true rfl) d_TR_init_28 (fun q28 H9 hP9 hD9 hS9 => ?_)
  clear hP8 hD8 hS8
  refine zCons (fun T28 e28 hP10 hD10 => ?_) hP9 hD9
  clear hP9 hD9
  refine va_putF (D := D) (ci := 2) (v := .ref q28) (ty := .array .int) (C := R_TR) (T := T_TR) (N := 9) hx hb hg i_TR t_TR o_TR n_TR hown hK hP10 hD10 hS9 0 rfl rfl 5 (by decide) (hg _ k1_234) (fun _ h9 => h9) rfl hnm rfl (by decide +kernel) rfl rfl (Nat.le_of_ble_eq_true rfl) d_TR_init_30 (fun H11 locs11 hP11 hD11 hS11 => ?_)
  clear hP10 hD10 hS9
  replace hP11 : va_P D vwCl ((h0, .inr (2, [.ref q5, .ref q16, .null, .int 0, .int 0, .ref q28, .null, .int 0, .int 0])) :: T28) _ := hP11
  replace hD11 : va_D A ((h0, .inr (2, [.ref q5, .ref q16, .null, .int 0, .int 0, .ref q28, .null, .int 0, .int 0])) :: T28) := hD11
  refine lv_aload_n hx hb d_TR_init_33 rfl (lv_at hl 0 rfl) ?_
  refine lv_iconst (v := 3) hx hb d_TR_init_34 (by decide) ?_
  refine zNewa (atype := .int) (ty := .int) (a0 := (3, .inl (fun _ => 0))) (N' := 3) hx hb rfl (hg _ k1_82) hK hP11 hD11 hS11 hA 0 rfl (fun _ h => by cases h) (fun _ => rfl) (by decide) (by decide) (by decide) (Nat.le_of_ble_eq_true rfl) (Nat.le_of_ble_eq_true rfl) d_TR_init_35 (fun q35 H12 hP12 hD12 hS12 => ?_)
  clear hP11 hD11 hS11
  refine zCons (fun T35 e35 hP13 hD13 => ?_) hP12 hD12
  clear hP12 hD12
  refine va_putF (D := D) (ci := 2) (v := .ref q35) (ty := .array .int) (C := R_TR) (T := T_TR) (N := 9) hx hb hg i_TR t_TR o_TR n_TR hown hK hP13 hD13 hS12 0 rfl rfl 6 (by decide) (hg _ k1_235) (fun _ h9 => h9) rfl hnm rfl (by decide +kernel) rfl rfl (Nat.le_of_ble_eq_true rfl) d_TR_init_37 (fun H14 locs14 hP14 hD14 hS14 => ?_)
  clear hP13 hD13 hS12
  replace hP14 : va_P D vwCl ((h0, .inr (2, [.ref q5, .ref q16, .null, .int 0, .int 0, .ref q28, .ref q35, .int 0, .int 0])) :: T35) _ := hP14
  replace hD14 : va_D A ((h0, .inr (2, [.ref q5, .ref q16, .null, .int 0, .int 0, .ref q28, .ref q35, .int 0, .int 0])) :: T35) := hD14
  refine W.cs (cells' := 22) (slots' := 2464) rfl rfl ?_
  exact zVret hx hb hr hlocks hP14 hD14 hS14 ((q5, u5), (q16, u16), q28, q35) trivial (by rw [e35, e28, e20, e9]; rfl) d_TR_init_40
abbrev S_Ga : Type := Nat × Nat × Nat × Nat × Nat × Nat × Nat × Nat × Nat × (Nat × S_Ma) × Nat × Nat × Nat
def w_Ga (tA : Nat → ClassId) (h0 : Nat) (u : S_Ga) : va_W := match u with
  | (q8, q17, q26, q35, q44, q53, q62, q71, q80, (q86, u86), q100, q108, q116) => (h0, .inr (6, [.int 0, .ref q8, .ref q17, .ref q26, .ref q35, .ref q44, .ref q53, .ref q62, .ref q71, .ref q80, .int 0, .int 0, .int 0, .int 0, .null, .ref q86, .ref q100, .ref q108, .ref q116])) :: ([] ++ [(q8, .inl (tA 0, 6144, .inl (fun _ => 0)))] ++ [(q17, .inl (tA 0, 512, .inl (fun _ => 0)))] ++ [(q26, .inl (tA 0, 512, .inl (fun _ => 0)))] ++ [(q35, .inl (tA 0, 513, .inl (fun _ => 0)))] ++ [(q44, .inl (tA 0, 4097, .inl (fun _ => 0)))] ++ [(q53, .inl (tA 0, 4097, .inl (fun _ => 0)))] ++ [(q62, .inl (tA 0, 4098, .inl (fun _ => 0)))] ++ [(q71, .inl (tA 0, 4096, .inl (fun _ => 0)))] ++ [(q80, .inl (tA 0, 4096, .inl (fun _ => 0)))] ++ w_Ma tA q86 u86 ++ [(q100, .inl (tA 0, 1024, .inl (fun _ => 0)))] ++ [(q108, .inl (tA 0, 8, .inl (fun _ => 0)))] ++ [(q116, .inl (tA 0, 8, .inl (fun _ => 0)))])
theorem f_Ga : ∀ j, j < 19 → defaultValue (t_Ga j) = vp_V [.int 0, .null, .null, .null, .null, .null, .null, .null, .null, .null, .int 0, .int 0, .int 0, .int 0, .null, .null, .null, .null, .null] j := by decide +kernel
set_option maxHeartbeats 4000000 in
set_option maxRecDepth 100000 in
theorem c_Ga_init (l : Launch) (D : va_G) (tA : Nat → ClassId) (h0 sz : Nat) : zMv l ({ cls := "ChanceArena$Game", name := "<init>", desc := "()V" } : Jvm.MethodName) (zW (Jvm.Cond.code ({ cls := "ChanceArena$Game", name := "<init>", desc := "()V" } : Jvm.MethodName) prog_4_method_1_code (1 : Nat) (Option.none : Option Jvm.ClassFile.FieldType))) { frames := 2, cells := 22, slots := 29675, locals := 32 } [.ref h0] D tA [(h0, .inr (6, [.int 0, .null, .null, .null, .null, .null, .null, .null, .null, .null, .int 0, .int 0, .int 0, .int 0, .null, .null, .null, .null, .null]))] sz (fun _ : S_Ga => True) (w_Ga tA h0) 22 29675 := by
  refine zOpen (fun A => va_Qv _ (zPost D A (w_Ga tA h0)) A) (lv := [(0, .ref h0)]) (by decide) rfl (Nat.le_of_ble_eq_true rfl) rfl ?_
  intro p e s m below meth c A ls hx hb hr hml hh hg hown hlocks hnm hK hA hP hD0 hAw hS hl
  have hD := zD hD0 hAw
  refine lv_aload_n hx hb d_Ga_init_0 rfl (lv_at hl 0 rfl) ?_
  refine W.objInit hx hb hown (hg _ k2_131) (hg _ k1_46) (hg _ k1_47) rfl (by rw [hml]; exact hl.1) rfl d_Ga_init_1 (Nat.le_of_ble_eq_true rfl) (Nat.le_of_ble_eq_true rfl) ?_
  refine lv_aload_n hx hb d_Ga_init_4 rfl (lv_at hl 0 rfl) ?_
  refine lv_sipush (v := 6144) hx hb d_Ga_init_5 (by decide) ?_
  refine zNewa (atype := .int) (ty := .int) (a0 := (6144, .inl (fun _ => 0))) (N' := 6144) hx hb rfl (hg _ k1_82) hK hP hD hS hA 0 rfl (fun _ h => by cases h) (fun _ => rfl) (by decide) (by decide) (by decide) (Nat.le_of_ble_eq_true rfl) (Nat.le_of_ble_eq_true rfl) d_Ga_init_8 (fun q8 H1 hP1 hD1 hS1 => ?_)
  clear hP hD hS
  refine zCons (fun T8 e8 hP2 hD2 => ?_) hP1 hD1
  clear hP1 hD1
  refine va_putF (D := D) (ci := 6) (v := .ref q8) (ty := .array .int) (C := R_Ga) (T := T_Ga) (N := 19) hx hb hg i_Ga t_Ga o_Ga n_Ga hown hK hP2 hD2 hS1 0 rfl rfl 1 (by decide) (hg _ k2_139) (fun _ h9 => h9) rfl hnm rfl (by decide +kernel) rfl rfl (Nat.le_of_ble_eq_true rfl) d_Ga_init_10 (fun H3 locs3 hP3 hD3 hS3 => ?_)
  clear hP2 hD2 hS1
  replace hP3 : va_P D vwCl ((h0, .inr (6, [.int 0, .ref q8, .null, .null, .null, .null, .null, .null, .null, .null, .int 0, .int 0, .int 0, .int 0, .null, .null, .null, .null, .null])) :: T8) _ := hP3
  replace hD3 : va_D A ((h0, .inr (6, [.int 0, .ref q8, .null, .null, .null, .null, .null, .null, .null, .null, .int 0, .int 0, .int 0, .int 0, .null, .null, .null, .null, .null])) :: T8) := hD3
  refine lv_aload_n hx hb d_Ga_init_13 rfl (lv_at hl 0 rfl) ?_
  refine lv_sipush (v := 512) hx hb d_Ga_init_14 (by decide) ?_
  refine zNewa (atype := .int) (ty := .int) (a0 := (512, .inl (fun _ => 0))) (N' := 512) hx hb rfl (hg _ k1_82) hK hP3 hD3 hS3 hA 0 rfl (fun _ h => by cases h) (fun _ => rfl) (by decide) (by decide) (by decide) (Nat.le_of_ble_eq_true rfl) (Nat.le_of_ble_eq_true rfl) d_Ga_init_17 (fun q17 H4 hP4 hD4 hS4 => ?_)
  clear hP3 hD3 hS3
  refine zCons (fun T17 e17 hP5 hD5 => ?_) hP4 hD4
  clear hP4 hD4
  refine va_putF (D := D) (ci := 6) (v := .ref q17) (ty := .array .int) (C := R_Ga) (T := T_Ga) (N := 19) hx hb hg i_Ga t_Ga o_Ga n_Ga hown hK hP5 hD5 hS4 0 rfl rfl 2 (by decide) (hg _ k2_141) (fun _ h9 => h9) rfl hnm rfl (by decide +kernel) rfl rfl (Nat.le_of_ble_eq_true rfl) d_Ga_init_19 (fun H6 locs6 hP6 hD6 hS6 => ?_)
  clear hP5 hD5 hS4
  replace hP6 : va_P D vwCl ((h0, .inr (6, [.int 0, .ref q8, .ref q17, .null, .null, .null, .null, .null, .null, .null, .int 0, .int 0, .int 0, .int 0, .null, .null, .null, .null, .null])) :: T17) _ := hP6
  replace hD6 : va_D A ((h0, .inr (6, [.int 0, .ref q8, .ref q17, .null, .null, .null, .null, .null, .null, .null, .int 0, .int 0, .int 0, .int 0, .null, .null, .null, .null, .null])) :: T17) := hD6
  refine lv_aload_n hx hb d_Ga_init_22 rfl (lv_at hl 0 rfl) ?_
  refine lv_sipush (v := 512) hx hb d_Ga_init_23 (by decide) ?_
  refine zNewa (atype := .int) (ty := .int) (a0 := (512, .inl (fun _ => 0))) (N' := 512) hx hb rfl (hg _ k1_82) hK hP6 hD6 hS6 hA 0 rfl (fun _ h => by cases h) (fun _ => rfl) (by decide) (by decide) (by decide) (Nat.le_of_ble_eq_true rfl) (Nat.le_of_ble_eq_true rfl) d_Ga_init_26 (fun q26 H7 hP7 hD7 hS7 => ?_)
  clear hP6 hD6 hS6
  refine zCons (fun T26 e26 hP8 hD8 => ?_) hP7 hD7
  clear hP7 hD7
  refine va_putF (D := D) (ci := 6) (v := .ref q26) (ty := .array .int) (C := R_Ga) (T := T_Ga) (N := 19) hx hb hg i_Ga t_Ga o_Ga n_Ga hown hK hP8 hD8 hS7 0 rfl rfl 3 (by decide) (hg _ k2_146) (fun _ h9 => h9) rfl hnm rfl (by decide +kernel) rfl rfl (Nat.le_of_ble_eq_true rfl) d_Ga_init_28 (fun H9 locs9 hP9 hD9 hS9 => ?_)
  clear hP8 hD8 hS7
  replace hP9 : va_P D vwCl ((h0, .inr (6, [.int 0, .ref q8, .ref q17, .ref q26, .null, .null, .null, .null, .null, .null, .int 0, .int 0, .int 0, .int 0, .null, .null, .null, .null, .null])) :: T26) _ := hP9
  replace hD9 : va_D A ((h0, .inr (6, [.int 0, .ref q8, .ref q17, .ref q26, .null, .null, .null, .null, .null, .null, .int 0, .int 0, .int 0, .int 0, .null, .null, .null, .null, .null])) :: T26) := hD9
  refine lv_aload_n hx hb d_Ga_init_31 rfl (lv_at hl 0 rfl) ?_
  refine lv_sipush (v := 513) hx hb d_Ga_init_32 (by decide) ?_
  refine zNewa (atype := .int) (ty := .int) (a0 := (513, .inl (fun _ => 0))) (N' := 513) hx hb rfl (hg _ k1_82) hK hP9 hD9 hS9 hA 0 rfl (fun _ h => by cases h) (fun _ => rfl) (by decide) (by decide) (by decide) (Nat.le_of_ble_eq_true rfl) (Nat.le_of_ble_eq_true rfl) d_Ga_init_35 (fun q35 H10 hP10 hD10 hS10 => ?_)
  clear hP9 hD9 hS9
  refine zCons (fun T35 e35 hP11 hD11 => ?_) hP10 hD10
  clear hP10 hD10
  refine va_putF (D := D) (ci := 6) (v := .ref q35) (ty := .array .int) (C := R_Ga) (T := T_Ga) (N := 19) hx hb hg i_Ga t_Ga o_Ga n_Ga hown hK hP11 hD11 hS10 0 rfl rfl 4 (by decide) (hg _ k2_149) (fun _ h9 => h9) rfl hnm rfl (by decide +kernel) rfl rfl (Nat.le_of_ble_eq_true rfl) d_Ga_init_37 (fun H12 locs12 hP12 hD12 hS12 => ?_)
  clear hP11 hD11 hS10
  replace hP12 : va_P D vwCl ((h0, .inr (6, [.int 0, .ref q8, .ref q17, .ref q26, .ref q35, .null, .null, .null, .null, .null, .int 0, .int 0, .int 0, .int 0, .null, .null, .null, .null, .null])) :: T35) _ := hP12
  replace hD12 : va_D A ((h0, .inr (6, [.int 0, .ref q8, .ref q17, .ref q26, .ref q35, .null, .null, .null, .null, .null, .int 0, .int 0, .int 0, .int 0, .null, .null, .null, .null, .null])) :: T35) := hD12
  refine lv_aload_n hx hb d_Ga_init_40 rfl (lv_at hl 0 rfl) ?_
  refine lv_sipush (v := 4097) hx hb d_Ga_init_41 (by decide) ?_
  refine zNewa (atype := .int) (ty := .int) (a0 := (4097, .inl (fun _ => 0))) (N' := 4097) hx hb rfl (hg _ k1_82) hK hP12 hD12 hS12 hA 0 rfl (fun _ h => by cases h) (fun _ => rfl) (by decide) (by decide) (by decide) (Nat.le_of_ble_eq_true rfl) (Nat.le_of_ble_eq_true rfl) d_Ga_init_44 (fun q44 H13 hP13 hD13 hS13 => ?_)
  clear hP12 hD12 hS12
  refine zCons (fun T44 e44 hP14 hD14 => ?_) hP13 hD13
  clear hP13 hD13
  refine va_putF (D := D) (ci := 6) (v := .ref q44) (ty := .array .int) (C := R_Ga) (T := T_Ga) (N := 19) hx hb hg i_Ga t_Ga o_Ga n_Ga hown hK hP14 hD14 hS13 0 rfl rfl 5 (by decide) (hg _ k2_153) (fun _ h9 => h9) rfl hnm rfl (by decide +kernel) rfl rfl (Nat.le_of_ble_eq_true rfl) d_Ga_init_46 (fun H15 locs15 hP15 hD15 hS15 => ?_)
  clear hP14 hD14 hS13
  replace hP15 : va_P D vwCl ((h0, .inr (6, [.int 0, .ref q8, .ref q17, .ref q26, .ref q35, .ref q44, .null, .null, .null, .null, .int 0, .int 0, .int 0, .int 0, .null, .null, .null, .null, .null])) :: T44) _ := hP15
  replace hD15 : va_D A ((h0, .inr (6, [.int 0, .ref q8, .ref q17, .ref q26, .ref q35, .ref q44, .null, .null, .null, .null, .int 0, .int 0, .int 0, .int 0, .null, .null, .null, .null, .null])) :: T44) := hD15
  refine lv_aload_n hx hb d_Ga_init_49 rfl (lv_at hl 0 rfl) ?_
  refine lv_sipush (v := 4097) hx hb d_Ga_init_50 (by decide) ?_
  refine zNewa (atype := .int) (ty := .int) (a0 := (4097, .inl (fun _ => 0))) (N' := 4097) hx hb rfl (hg _ k1_82) hK hP15 hD15 hS15 hA 0 rfl (fun _ h => by cases h) (fun _ => rfl) (by decide) (by decide) (by decide) (Nat.le_of_ble_eq_true rfl) (Nat.le_of_ble_eq_true rfl) d_Ga_init_53 (fun q53 H16 hP16 hD16 hS16 => ?_)
  clear hP15 hD15 hS15
  refine zCons (fun T53 e53 hP17 hD17 => ?_) hP16 hD16
  clear hP16 hD16
  refine va_putF (D := D) (ci := 6) (v := .ref q53) (ty := .array .int) (C := R_Ga) (T := T_Ga) (N := 19) hx hb hg i_Ga t_Ga o_Ga n_Ga hown hK hP17 hD17 hS16 0 rfl rfl 6 (by decide) (hg _ k2_155) (fun _ h9 => h9) rfl hnm rfl (by decide +kernel) rfl rfl (Nat.le_of_ble_eq_true rfl) d_Ga_init_55 (fun H18 locs18 hP18 hD18 hS18 => ?_)
  clear hP17 hD17 hS16
  replace hP18 : va_P D vwCl ((h0, .inr (6, [.int 0, .ref q8, .ref q17, .ref q26, .ref q35, .ref q44, .ref q53, .null, .null, .null, .int 0, .int 0, .int 0, .int 0, .null, .null, .null, .null, .null])) :: T53) _ := hP18
  replace hD18 : va_D A ((h0, .inr (6, [.int 0, .ref q8, .ref q17, .ref q26, .ref q35, .ref q44, .ref q53, .null, .null, .null, .int 0, .int 0, .int 0, .int 0, .null, .null, .null, .null, .null])) :: T53) := hD18
  refine lv_aload_n hx hb d_Ga_init_58 rfl (lv_at hl 0 rfl) ?_
  refine lv_sipush (v := 4098) hx hb d_Ga_init_59 (by decide) ?_
  refine zNewa (atype := .int) (ty := .int) (a0 := (4098, .inl (fun _ => 0))) (N' := 4098) hx hb rfl (hg _ k1_82) hK hP18 hD18 hS18 hA 0 rfl (fun _ h => by cases h) (fun _ => rfl) (by decide) (by decide) (by decide) (Nat.le_of_ble_eq_true rfl) (Nat.le_of_ble_eq_true rfl) d_Ga_init_62 (fun q62 H19 hP19 hD19 hS19 => ?_)
  clear hP18 hD18 hS18
  refine zCons (fun T62 e62 hP20 hD20 => ?_) hP19 hD19
  clear hP19 hD19
  refine va_putF (D := D) (ci := 6) (v := .ref q62) (ty := .array .int) (C := R_Ga) (T := T_Ga) (N := 19) hx hb hg i_Ga t_Ga o_Ga n_Ga hown hK hP20 hD20 hS19 0 rfl rfl 7 (by decide) (hg _ k2_159) (fun _ h9 => h9) rfl hnm rfl (by decide +kernel) rfl rfl (Nat.le_of_ble_eq_true rfl) d_Ga_init_64 (fun H21 locs21 hP21 hD21 hS21 => ?_)
  clear hP20 hD20 hS19
  replace hP21 : va_P D vwCl ((h0, .inr (6, [.int 0, .ref q8, .ref q17, .ref q26, .ref q35, .ref q44, .ref q53, .ref q62, .null, .null, .int 0, .int 0, .int 0, .int 0, .null, .null, .null, .null, .null])) :: T62) _ := hP21
  replace hD21 : va_D A ((h0, .inr (6, [.int 0, .ref q8, .ref q17, .ref q26, .ref q35, .ref q44, .ref q53, .ref q62, .null, .null, .int 0, .int 0, .int 0, .int 0, .null, .null, .null, .null, .null])) :: T62) := hD21
  refine lv_aload_n hx hb d_Ga_init_67 rfl (lv_at hl 0 rfl) ?_
  refine lv_sipush (v := 4096) hx hb d_Ga_init_68 (by decide) ?_
  refine zNewa (atype := .int) (ty := .int) (a0 := (4096, .inl (fun _ => 0))) (N' := 4096) hx hb rfl (hg _ k1_82) hK hP21 hD21 hS21 hA 0 rfl (fun _ h => by cases h) (fun _ => rfl) (by decide) (by decide) (by decide) (Nat.le_of_ble_eq_true rfl) (Nat.le_of_ble_eq_true rfl) d_Ga_init_71 (fun q71 H22 hP22 hD22 hS22 => ?_)
  clear hP21 hD21 hS21
  refine zCons (fun T71 e71 hP23 hD23 => ?_) hP22 hD22
  clear hP22 hD22
  refine va_putF (D := D) (ci := 6) (v := .ref q71) (ty := .array .int) (C := R_Ga) (T := T_Ga) (N := 19) hx hb hg i_Ga t_Ga o_Ga n_Ga hown hK hP23 hD23 hS22 0 rfl rfl 8 (by decide) (hg _ k2_163) (fun _ h9 => h9) rfl hnm rfl (by decide +kernel) rfl rfl (Nat.le_of_ble_eq_true rfl) d_Ga_init_73 (fun H24 locs24 hP24 hD24 hS24 => ?_)
  clear hP23 hD23 hS22
  replace hP24 : va_P D vwCl ((h0, .inr (6, [.int 0, .ref q8, .ref q17, .ref q26, .ref q35, .ref q44, .ref q53, .ref q62, .ref q71, .null, .int 0, .int 0, .int 0, .int 0, .null, .null, .null, .null, .null])) :: T71) _ := hP24
  replace hD24 : va_D A ((h0, .inr (6, [.int 0, .ref q8, .ref q17, .ref q26, .ref q35, .ref q44, .ref q53, .ref q62, .ref q71, .null, .int 0, .int 0, .int 0, .int 0, .null, .null, .null, .null, .null])) :: T71) := hD24
  refine lv_aload_n hx hb d_Ga_init_76 rfl (lv_at hl 0 rfl) ?_
  refine lv_sipush (v := 4096) hx hb d_Ga_init_77 (by decide) ?_
  refine zNewa (atype := .int) (ty := .int) (a0 := (4096, .inl (fun _ => 0))) (N' := 4096) hx hb rfl (hg _ k1_82) hK hP24 hD24 hS24 hA 0 rfl (fun _ h => by cases h) (fun _ => rfl) (by decide) (by decide) (by decide) (Nat.le_of_ble_eq_true rfl) (Nat.le_of_ble_eq_true rfl) d_Ga_init_80 (fun q80 H25 hP25 hD25 hS25 => ?_)
  clear hP24 hD24 hS24
  refine zCons (fun T80 e80 hP26 hD26 => ?_) hP25 hD25
  clear hP25 hD25
  refine va_putF (D := D) (ci := 6) (v := .ref q80) (ty := .array .int) (C := R_Ga) (T := T_Ga) (N := 19) hx hb hg i_Ga t_Ga o_Ga n_Ga hown hK hP26 hD26 hS25 0 rfl rfl 9 (by decide) (hg _ k2_167) (fun _ h9 => h9) rfl hnm rfl (by decide +kernel) rfl rfl (Nat.le_of_ble_eq_true rfl) d_Ga_init_82 (fun H27 locs27 hP27 hD27 hS27 => ?_)
  clear hP26 hD26 hS25
  replace hP27 : va_P D vwCl ((h0, .inr (6, [.int 0, .ref q8, .ref q17, .ref q26, .ref q35, .ref q44, .ref q53, .ref q62, .ref q71, .ref q80, .int 0, .int 0, .int 0, .int 0, .null, .null, .null, .null, .null])) :: T80) _ := hP27
  replace hD27 : va_D A ((h0, .inr (6, [.int 0, .ref q8, .ref q17, .ref q26, .ref q35, .ref q44, .ref q53, .ref q62, .ref q71, .ref q80, .int 0, .int 0, .int 0, .int 0, .null, .null, .null, .null, .null])) :: T80) := hD27
  refine lv_aload_n hx hb d_Ga_init_85 rfl (lv_at hl 0 rfl) ?_
  refine va_new (ci := 4) (fs := [.null, .int 0, .int 0, .null, .int 0, .null, .null, .null, .int 0, .int 0, .null, .null, .null, .null, .null, .int 0]) (C := R_Ma) (T := T_Ma) (N := 16) hx hb hg i_Ma t_Ma o_Ma hown (hg _ k2_132) (hg _ k1_164) (hg _ k1_5) hK hP27 hD27 hS27 hA rfl f_Ma (Nat.le_of_ble_eq_true rfl) (Nat.le_of_ble_eq_true rfl) d_Ga_init_86 (fun q86 H28 hP28 hD28 hS28 => ?_)
  clear hP27 hD27 hS27
  refine lv_dup hx hb d_Ga_init_89 rfl ?_
  refine zInit hP28 hD28 hS28 hA (va_runIN (As := []) (rest := [.ref q86, .ref h0]) ⟨hx, hb, hml, hown, hg⟩ (c_Ma_init l D tA q86 H28.size) ⟨va_cnB 0 hg (zGood k1_167 rfl) rfl rfl rfl (va_Nw.of rfl (hg _ k2_133)) (hg _ k1_5) (by decide +kernel) ⟨(Nat.le_of_ble_eq_true rfl), (Nat.le_of_ble_eq_true rfl)⟩, rfl, hg _ k1_166⟩ (zPreI hh hK hP28 hD28) rfl rfl hl.1 rfl (lv_room (Nat.le_of_ble_eq_true rfl)) d_Ga_init_90 ⟨(Nat.le_of_ble_eq_true rfl), (Nat.le_of_ble_eq_true rfl)⟩) (fun u86 H29 locs29 _ hP29 hD29 hS29 => ?_)
  clear hP28 hD28 hS28
  refine zCons (fun T90 e90 hP30 hD30 => ?_) hP29 hD29
  clear hP29 hD29
  refine va_putF (D := D) (ci := 6) (v := .ref q86) (ty := .object "ChanceArena$Machine") (C := R_Ga) (T := T_Ga) (N := 19) hx hb hg i_Ga t_Ga o_Ga n_Ga hown hK hP30 hD30 hS29 0 rfl rfl 15 (by decide) (hg _ k2_178) (fun _ h9 => h9) rfl hnm rfl (by decide +kernel) rfl rfl (Nat.le_of_ble_eq_true rfl) d_Ga_init_93 (fun H31 locs31 hP31 hD31 hS31 => ?_)
  clear hP30 hD30 hS29
  replace hP31 : va_P D vwCl ((h0, .inr (6, [.int 0, .ref q8, .ref q17, .ref q26, .ref q35, .ref q44, .ref q53, .ref q62, .ref q71, .ref q80, .int 0, .int 0, .int 0, .int 0, .null, .ref q86, .null, .null, .null])) :: T90) _ := hP31
  replace hD31 : va_D A ((h0, .inr (6, [.int 0, .ref q8, .ref q17, .ref q26, .ref q35, .ref q44, .ref q53, .ref q62, .ref q71, .ref q80, .int 0, .int 0, .int 0, .int 0, .null, .ref q86, .null, .null, .null])) :: T90) := hD31
  refine lv_aload_n hx hb d_Ga_init_96 rfl (lv_at hl 0 rfl) ?_
  refine lv_sipush (v := 1024) hx hb d_Ga_init_97 (by decide) ?_
  refine zNewa (atype := .int) (ty := .int) (a0 := (1024, .inl (fun _ => 0))) (N' := 1024) hx hb rfl (hg _ k1_82) hK hP31 hD31 hS31 hA 0 rfl (fun _ h => by cases h) (fun _ => rfl) (by decide) (by decide) (by decide) (Nat.le_of_ble_eq_true rfl) (Nat.le_of_ble_eq_true rfl) d_Ga_init_100 (fun q100 H32 hP32 hD32 hS32 => ?_)
  clear hP31 hD31 hS31
  refine zCons (fun T100 e100 hP33 hD33 => ?_) hP32 hD32
  clear hP32 hD32
  refine va_putF (D := D) (ci := 6) (v := .ref q100) (ty := .array .int) (C := R_Ga) (T := T_Ga) (N := 19) hx hb hg i_Ga t_Ga o_Ga n_Ga hown hK hP33 hD33 hS32 0 rfl rfl 16 (by decide) (hg _ k2_179) (fun _ h9 => h9) rfl hnm rfl (by decide +kernel) rfl rfl (Nat.le_of_ble_eq_true rfl) d_Ga_init_102 (fun H34 locs34 hP34 hD34 hS34 => ?_)
  clear hP33 hD33 hS32
  replace hP34 : va_P D vwCl ((h0, .inr (6, [.int 0, .ref q8, .ref q17, .ref q26, .ref q35, .ref q44, .ref q53, .ref q62, .ref q71, .ref q80, .int 0, .int 0, .int 0, .int 0, .null, .ref q86, .ref q100, .null, .null])) :: T100) _ := hP34
  replace hD34 : va_D A ((h0, .inr (6, [.int 0, .ref q8, .ref q17, .ref q26, .ref q35, .ref q44, .ref q53, .ref q62, .ref q71, .ref q80, .int 0, .int 0, .int 0, .int 0, .null, .ref q86, .ref q100, .null, .null])) :: T100) := hD34
  refine lv_aload_n hx hb d_Ga_init_105 rfl (lv_at hl 0 rfl) ?_
  refine lv_bipush (v := 8) hx hb d_Ga_init_106 (by decide) ?_
  refine zNewa (atype := .int) (ty := .int) (a0 := (8, .inl (fun _ => 0))) (N' := 8) hx hb rfl (hg _ k1_82) hK hP34 hD34 hS34 hA 0 rfl (fun _ h => by cases h) (fun _ => rfl) (by decide) (by decide) (by decide) (Nat.le_of_ble_eq_true rfl) (Nat.le_of_ble_eq_true rfl) d_Ga_init_108 (fun q108 H35 hP35 hD35 hS35 => ?_)
  clear hP34 hD34 hS34
  refine zCons (fun T108 e108 hP36 hD36 => ?_) hP35 hD35
  clear hP35 hD35
  refine va_putF (D := D) (ci := 6) (v := .ref q108) (ty := .array .int) (C := R_Ga) (T := T_Ga) (N := 19) hx hb hg i_Ga t_Ga o_Ga n_Ga hown hK hP36 hD36 hS35 0 rfl rfl 17 (by decide) (hg _ k2_180) (fun _ h9 => h9) rfl hnm rfl (by decide +kernel) rfl rfl (Nat.le_of_ble_eq_true rfl) d_Ga_init_110 (fun H37 locs37 hP37 hD37 hS37 => ?_)
  clear hP36 hD36 hS35
  replace hP37 : va_P D vwCl ((h0, .inr (6, [.int 0, .ref q8, .ref q17, .ref q26, .ref q35, .ref q44, .ref q53, .ref q62, .ref q71, .ref q80, .int 0, .int 0, .int 0, .int 0, .null, .ref q86, .ref q100, .ref q108, .null])) :: T108) _ := hP37
  replace hD37 : va_D A ((h0, .inr (6, [.int 0, .ref q8, .ref q17, .ref q26, .ref q35, .ref q44, .ref q53, .ref q62, .ref q71, .ref q80, .int 0, .int 0, .int 0, .int 0, .null, .ref q86, .ref q100, .ref q108, .null])) :: T108) := hD37
  refine lv_aload_n hx hb d_Ga_init_113 rfl (lv_at hl 0 rfl) ?_
  refine lv_bipush (v := 8) hx hb d_Ga_init_114 (by decide) ?_
  refine zNewa (atype := .int) (ty := .int) (a0 := (8, .inl (fun _ => 0))) (N' := 8) hx hb rfl (hg _ k1_82) hK hP37 hD37 hS37 hA 0 rfl (fun _ h => by cases h) (fun _ => rfl) (by decide) (by decide) (by decide) (Nat.le_of_ble_eq_true rfl) (Nat.le_of_ble_eq_true rfl) d_Ga_init_116 (fun q116 H38 hP38 hD38 hS38 => ?_)
  clear hP37 hD37 hS37
  refine zCons (fun T116 e116 hP39 hD39 => ?_) hP38 hD38
  clear hP38 hD38
  refine va_putF (D := D) (ci := 6) (v := .ref q116) (ty := .array .int) (C := R_Ga) (T := T_Ga) (N := 19) hx hb hg i_Ga t_Ga o_Ga n_Ga hown hK hP39 hD39 hS38 0 rfl rfl 18 (by decide) (hg _ k2_181) (fun _ h9 => h9) rfl hnm rfl (by decide +kernel) rfl rfl (Nat.le_of_ble_eq_true rfl) d_Ga_init_118 (fun H40 locs40 hP40 hD40 hS40 => ?_)
  clear hP39 hD39 hS38
  replace hP40 : va_P D vwCl ((h0, .inr (6, [.int 0, .ref q8, .ref q17, .ref q26, .ref q35, .ref q44, .ref q53, .ref q62, .ref q71, .ref q80, .int 0, .int 0, .int 0, .int 0, .null, .ref q86, .ref q100, .ref q108, .ref q116])) :: T116) _ := hP40
  replace hD40 : va_D A ((h0, .inr (6, [.int 0, .ref q8, .ref q17, .ref q26, .ref q35, .ref q44, .ref q53, .ref q62, .ref q71, .ref q80, .int 0, .int 0, .int 0, .int 0, .null, .ref q86, .ref q100, .ref q108, .ref q116])) :: T116) := hD40
  refine W.cs (cells' := 22) (slots' := 29675) rfl rfl ?_
  exact zVret hx hb hr hlocks hP40 hD40 hS40 (q8, q17, q26, q35, q44, q53, q62, q71, q80, (q86, u86), q100, q108, q116) trivial (by rw [e116, e108, e100, e90, e80, e71, e62, e53, e44, e35, e26, e17, e8]; rfl) d_Ga_init_121
