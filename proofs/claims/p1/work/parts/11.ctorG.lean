theorem k1_9 : (Jvm.Cond.initialized "ChanceArena$Scales") ∈ lw_R := zR (zk_1 _ (List.mem_of_getElem? (i := 9) (by decide +kernel))) rfl
theorem k1_12 : (Jvm.Cond.initialized "ChanceArena$Residues") ∈ lw_R := zR (zk_1 _ (List.mem_of_getElem? (i := 12) (by decide +kernel))) rfl
theorem k2_225 : (Jvm.Cond.code ({ cls := "ChanceArena$Solver", name := "<init>", desc := "(LChanceArena$Game;)V" } : Jvm.MethodName) prog_11_method_1_code (2 : Nat) (Option.none : Option Jvm.ClassFile.FieldType)) ∈ lw_R := zR (zk_2 _ (List.mem_of_getElem? (i := 225) (by decide +kernel))) rfl
theorem k2_226 : (Jvm.Cond.methodLink "ChanceArena$Solver" (3 : Nat) ({ cls := "java/lang/Object", name := "<init>", desc := "()V" } : Jvm.MethodName)) ∈ lw_R := zR (zk_2 _ (List.mem_of_getElem? (i := 226) (by decide +kernel))) rfl
theorem k2_227 : (Jvm.Cond.classLink "ChanceArena$Solver" (9 : Nat) "ChanceArena$Scales") ∈ lw_R := zR (zk_2 _ (List.mem_of_getElem? (i := 227) (by decide +kernel))) rfl
theorem k2_228 : (Jvm.Cond.instantiable "ChanceArena$Scales" (11 : Nat)) ∈ lw_R := zR (zk_2 _ (List.mem_of_getElem? (i := 228) (by decide +kernel))) rfl
theorem k2_229 : (Jvm.Cond.methodLinkNest "ChanceArena$Solver" (11 : Nat) ({ cls := "ChanceArena$Scales", name := "<init>", desc := "()V" } : Jvm.MethodName) "ChanceArena") ∈ lw_R := zR (zk_2 _ (List.mem_of_getElem? (i := 229) (by decide +kernel))) rfl
theorem k2_230 : (Jvm.Cond.instanceMethod ({ cls := "ChanceArena$Scales", name := "<init>", desc := "()V" } : Jvm.MethodName)) ∈ lw_R := zR (zk_2 _ (List.mem_of_getElem? (i := 230) (by decide +kernel))) rfl
theorem k3_70 : (Jvm.Cond.classLink "ChanceArena$Solver" (25 : Nat) "ChanceArena$Residues") ∈ lw_R := zR (zk_3 _ (List.mem_of_getElem? (i := 70) (by decide +kernel))) rfl
theorem k3_71 : (Jvm.Cond.instantiable "ChanceArena$Residues" (7 : Nat)) ∈ lw_R := zR (zk_3 _ (List.mem_of_getElem? (i := 71) (by decide +kernel))) rfl
theorem k3_72 : (Jvm.Cond.methodLink "ChanceArena$Solver" (27 : Nat) ({ cls := "ChanceArena$Residues", name := "<init>", desc := "()V" } : Jvm.MethodName)) ∈ lw_R := zR (zk_3 _ (List.mem_of_getElem? (i := 72) (by decide +kernel))) rfl
theorem k3_73 : (Jvm.Cond.instanceMethod ({ cls := "ChanceArena$Residues", name := "<init>", desc := "()V" } : Jvm.MethodName)) ∈ lw_R := zR (zk_3 _ (List.mem_of_getElem? (i := 73) (by decide +kernel))) rfl
theorem k3_103 : (Jvm.Cond.classLink "ChanceArena$Solver" (57 : Nat) "ChanceArena$Fraction") ∈ lw_R := zR (zk_3 _ (List.mem_of_getElem? (i := 103) (by decide +kernel))) rfl
theorem k3_104 : (Jvm.Cond.methodLinkNest "ChanceArena$Solver" (59 : Nat) ({ cls := "ChanceArena$Fraction", name := "<init>", desc := "()V" } : Jvm.MethodName) "ChanceArena") ∈ lw_R := zR (zk_3 _ (List.mem_of_getElem? (i := 104) (by decide +kernel))) rfl
theorem k3_105 : (Jvm.Cond.fieldLink "ChanceArena$Solver" (12 : Nat) "ChanceArena$Solver" "scales" "LChanceArena$Scales;") ∈ lw_R := zR (zk_3 _ (List.mem_of_getElem? (i := 105) (by decide +kernel))) rfl
theorem k3_107 : (Jvm.Cond.fieldLink "ChanceArena$Solver" (18 : Nat) "ChanceArena$Solver" "ranks" "[I") ∈ lw_R := zR (zk_3 _ (List.mem_of_getElem? (i := 107) (by decide +kernel))) rfl
theorem k3_109 : (Jvm.Cond.fieldLink "ChanceArena$Solver" (22 : Nat) "ChanceArena$Solver" "choices" "[I") ∈ lw_R := zR (zk_3 _ (List.mem_of_getElem? (i := 109) (by decide +kernel))) rfl
theorem k3_111 : (Jvm.Cond.fieldLink "ChanceArena$Solver" (64 : Nat) "ChanceArena$Solver" "game" "LChanceArena$Game;") ∈ lw_R := zR (zk_3 _ (List.mem_of_getElem? (i := 111) (by decide +kernel))) rfl
theorem k3_112 : (Jvm.Cond.fieldLink "ChanceArena$Solver" (28 : Nat) "ChanceArena$Solver" "system" "LChanceArena$Residues;") ∈ lw_R := zR (zk_3 _ (List.mem_of_getElem? (i := 112) (by decide +kernel))) rfl
theorem k3_113 : (Jvm.Cond.fieldLink "ChanceArena$Solver" (32 : Nat) "ChanceArena$Solver" "low" "[I") ∈ lw_R := zR (zk_3 _ (List.mem_of_getElem? (i := 113) (by decide +kernel))) rfl
theorem k3_114 : (Jvm.Cond.fieldLink "ChanceArena$Solver" (35 : Nat) "ChanceArena$Solver" "high" "[I") ∈ lw_R := zR (zk_3 _ (List.mem_of_getElem? (i := 114) (by decide +kernel))) rfl
theorem k3_115 : (Jvm.Cond.fieldLink "ChanceArena$Solver" (38 : Nat) "ChanceArena$Solver" "slot" "[I") ∈ lw_R := zR (zk_3 _ (List.mem_of_getElem? (i := 115) (by decide +kernel))) rfl
theorem k3_116 : (Jvm.Cond.fieldLink "ChanceArena$Solver" (41 : Nat) "ChanceArena$Solver" "unknown" "[I") ∈ lw_R := zR (zk_3 _ (List.mem_of_getElem? (i := 116) (by decide +kernel))) rfl
theorem k3_117 : (Jvm.Cond.fieldLink "ChanceArena$Solver" (44 : Nat) "ChanceArena$Solver" "chosen" "[I") ∈ lw_R := zR (zk_3 _ (List.mem_of_getElem? (i := 117) (by decide +kernel))) rfl
theorem k3_119 : (Jvm.Cond.fieldLink "ChanceArena$Solver" (47 : Nat) "ChanceArena$Solver" "others" "[I") ∈ lw_R := zR (zk_3 _ (List.mem_of_getElem? (i := 119) (by decide +kernel))) rfl
theorem k3_123 : (Jvm.Cond.fieldLink "ChanceArena$Solver" (50 : Nat) "ChanceArena$Solver" "attains" "[Z") ∈ lw_R := zR (zk_3 _ (List.mem_of_getElem? (i := 123) (by decide +kernel))) rfl
theorem k3_124 : (Jvm.Cond.fieldLink "ChanceArena$Solver" (54 : Nat) "ChanceArena$Solver" "probe" "[I") ∈ lw_R := zR (zk_3 _ (List.mem_of_getElem? (i := 124) (by decide +kernel))) rfl
theorem k3_125 : (Jvm.Cond.fieldLink "ChanceArena$Solver" (60 : Nat) "ChanceArena$Solver" "worth" "LChanceArena$Fraction;") ∈ lw_R := zR (zk_3 _ (List.mem_of_getElem? (i := 125) (by decide +kernel))) rfl
theorem d_So_init_0 : decode prog_11_method_1_code 0 = .ok (.aload_n 0, 1) := dc9_42 (by decide +kernel)
theorem d_So_init_1 : decode prog_11_method_1_code 1 = .ok (.invokespecial 3, 3) := dc9_183 (by decide +kernel)
theorem d_So_init_4 : decode prog_11_method_1_code 4 = .ok (.aload_n 0, 1) := dc9_42 (by decide +kernel)
theorem d_So_init_5 : decode prog_11_method_1_code 5 = .ok (.new 9, 3) := dc9_187 (by decide +kernel)
theorem d_So_init_8 : decode prog_11_method_1_code 8 = .ok (.dup, 1) := dc9_89 (by decide +kernel)
theorem d_So_init_9 : decode prog_11_method_1_code 9 = .ok (.invokespecial 11, 3) := dc9_183 (by decide +kernel)
theorem d_So_init_12 : decode prog_11_method_1_code 12 = .ok (.putfield 12, 3) := dc9_181 (by decide +kernel)
theorem d_So_init_15 : decode prog_11_method_1_code 15 = .ok (.aload_n 0, 1) := dc9_42 (by decide +kernel)
theorem d_So_init_16 : decode prog_11_method_1_code 16 = .ok (.sipush 512, 3) := dc9_17 (by decide +kernel)
theorem d_So_init_19 : decode prog_11_method_1_code 19 = .ok (.newarray .int, 2) := by decide +kernel
theorem d_So_init_21 : decode prog_11_method_1_code 21 = .ok (.putfield 18, 3) := dc9_181 (by decide +kernel)
theorem d_So_init_24 : decode prog_11_method_1_code 24 = .ok (.aload_n 0, 1) := dc9_42 (by decide +kernel)
theorem d_So_init_25 : decode prog_11_method_1_code 25 = .ok (.sipush 512, 3) := dc9_17 (by decide +kernel)
theorem d_So_init_28 : decode prog_11_method_1_code 28 = .ok (.newarray .int, 2) := by decide +kernel
theorem d_So_init_30 : decode prog_11_method_1_code 30 = .ok (.putfield 22, 3) := dc9_181 (by decide +kernel)
theorem d_So_init_33 : decode prog_11_method_1_code 33 = .ok (.aload_n 0, 1) := dc9_42 (by decide +kernel)
theorem d_So_init_34 : decode prog_11_method_1_code 34 = .ok (.new 25, 3) := dc9_187 (by decide +kernel)
theorem d_So_init_37 : decode prog_11_method_1_code 37 = .ok (.dup, 1) := dc9_89 (by decide +kernel)
theorem d_So_init_38 : decode prog_11_method_1_code 38 = .ok (.invokespecial 27, 3) := dc9_183 (by decide +kernel)
theorem d_So_init_41 : decode prog_11_method_1_code 41 = .ok (.putfield 28, 3) := dc9_181 (by decide +kernel)
theorem d_So_init_44 : decode prog_11_method_1_code 44 = .ok (.aload_n 0, 1) := dc9_42 (by decide +kernel)
theorem d_So_init_45 : decode prog_11_method_1_code 45 = .ok (.sipush 512, 3) := dc9_17 (by decide +kernel)
theorem d_So_init_48 : decode prog_11_method_1_code 48 = .ok (.newarray .int, 2) := by decide +kernel
theorem d_So_init_50 : decode prog_11_method_1_code 50 = .ok (.putfield 32, 3) := dc9_181 (by decide +kernel)
theorem d_So_init_53 : decode prog_11_method_1_code 53 = .ok (.aload_n 0, 1) := dc9_42 (by decide +kernel)
theorem d_So_init_54 : decode prog_11_method_1_code 54 = .ok (.sipush 512, 3) := dc9_17 (by decide +kernel)
theorem d_So_init_57 : decode prog_11_method_1_code 57 = .ok (.newarray .int, 2) := by decide +kernel
theorem d_So_init_59 : decode prog_11_method_1_code 59 = .ok (.putfield 35, 3) := dc9_181 (by decide +kernel)
theorem d_So_init_62 : decode prog_11_method_1_code 62 = .ok (.aload_n 0, 1) := dc9_42 (by decide +kernel)
theorem d_So_init_63 : decode prog_11_method_1_code 63 = .ok (.sipush 512, 3) := dc9_17 (by decide +kernel)
theorem d_So_init_66 : decode prog_11_method_1_code 66 = .ok (.newarray .int, 2) := by decide +kernel
theorem d_So_init_68 : decode prog_11_method_1_code 68 = .ok (.putfield 38, 3) := dc9_181 (by decide +kernel)
theorem d_So_init_71 : decode prog_11_method_1_code 71 = .ok (.aload_n 0, 1) := dc9_42 (by decide +kernel)
theorem d_So_init_72 : decode prog_11_method_1_code 72 = .ok (.bipush 40, 2) := dc9_16 (by decide +kernel)
theorem d_So_init_74 : decode prog_11_method_1_code 74 = .ok (.newarray .int, 2) := by decide +kernel
theorem d_So_init_76 : decode prog_11_method_1_code 76 = .ok (.putfield 41, 3) := dc9_181 (by decide +kernel)
theorem d_So_init_79 : decode prog_11_method_1_code 79 = .ok (.aload_n 0, 1) := dc9_42 (by decide +kernel)
theorem d_So_init_80 : decode prog_11_method_1_code 80 = .ok (.bipush 40, 2) := dc9_16 (by decide +kernel)
theorem d_So_init_82 : decode prog_11_method_1_code 82 = .ok (.newarray .int, 2) := by decide +kernel
theorem d_So_init_84 : decode prog_11_method_1_code 84 = .ok (.putfield 44, 3) := dc9_181 (by decide +kernel)
theorem d_So_init_87 : decode prog_11_method_1_code 87 = .ok (.aload_n 0, 1) := dc9_42 (by decide +kernel)
theorem d_So_init_88 : decode prog_11_method_1_code 88 = .ok (.iconst 0, 1) := dc9_3 (by decide +kernel)
theorem d_So_init_89 : decode prog_11_method_1_code 89 = .ok (.newarray .int, 2) := by decide +kernel
theorem d_So_init_91 : decode prog_11_method_1_code 91 = .ok (.putfield 47, 3) := dc9_181 (by decide +kernel)
theorem d_So_init_94 : decode prog_11_method_1_code 94 = .ok (.aload_n 0, 1) := dc9_42 (by decide +kernel)
theorem d_So_init_95 : decode prog_11_method_1_code 95 = .ok (.sipush 4097, 3) := dc9_17 (by decide +kernel)
theorem d_So_init_98 : decode prog_11_method_1_code 98 = .ok (.newarray .boolean, 2) := by decide +kernel
theorem d_So_init_100 : decode prog_11_method_1_code 100 = .ok (.putfield 50, 3) := dc9_181 (by decide +kernel)
theorem d_So_init_103 : decode prog_11_method_1_code 103 = .ok (.aload_n 0, 1) := dc9_42 (by decide +kernel)
theorem d_So_init_104 : decode prog_11_method_1_code 104 = .ok (.sipush 512, 3) := dc9_17 (by decide +kernel)
theorem d_So_init_107 : decode prog_11_method_1_code 107 = .ok (.newarray .int, 2) := by decide +kernel
theorem d_So_init_109 : decode prog_11_method_1_code 109 = .ok (.putfield 54, 3) := dc9_181 (by decide +kernel)
theorem d_So_init_112 : decode prog_11_method_1_code 112 = .ok (.aload_n 0, 1) := dc9_42 (by decide +kernel)
theorem d_So_init_113 : decode prog_11_method_1_code 113 = .ok (.new 57, 3) := dc9_187 (by decide +kernel)
theorem d_So_init_116 : decode prog_11_method_1_code 116 = .ok (.dup, 1) := dc9_89 (by decide +kernel)
theorem d_So_init_117 : decode prog_11_method_1_code 117 = .ok (.invokespecial 59, 3) := dc9_183 (by decide +kernel)
theorem d_So_init_120 : decode prog_11_method_1_code 120 = .ok (.putfield 60, 3) := dc9_181 (by decide +kernel)
theorem d_So_init_123 : decode prog_11_method_1_code 123 = .ok (.aload_n 0, 1) := dc9_42 (by decide +kernel)
theorem d_So_init_124 : decode prog_11_method_1_code 124 = .ok (.aload_n 1, 1) := dc9_43 (by decide +kernel)
theorem d_So_init_125 : decode prog_11_method_1_code 125 = .ok (.putfield 64, 3) := dc9_181 (by decide +kernel)
theorem d_So_init_128 : decode prog_11_method_1_code 128 = .ok (.return_, 1) := dc9_177 (by decide +kernel)
abbrev S_So : Type := (Nat × S_Sc) × Nat × Nat × (Nat × S_Re) × Nat × Nat × Nat × Nat × Nat × Nat × Nat × Nat × (Nat × S_Fr)
def w_So (tA : Nat → ClassId) (h0 g1 : Nat) (u : S_So) : va_W := match u with
  | ((q5, u5), q19, q28, (q34, u34), q48, q57, q66, q74, q82, q89, q98, q107, (q113, u113)) => (h0, .inr (7, [.ref q5, .ref q19, .ref q28, .ref g1, .ref q34, .ref q48, .ref q57, .ref q66, .ref q74, .ref q82, .int 0, .ref q89, .int 0, .int 0, .long 0, .ref q98, .ref q107, .ref q113])) :: ([] ++ w_Sc tA q5 u5 ++ [(q19, .inl (tA 0, 512, .inl (fun _ => 0)))] ++ [(q28, .inl (tA 0, 512, .inl (fun _ => 0)))] ++ w_Re tA q34 u34 ++ [(q48, .inl (tA 0, 512, .inl (fun _ => 0)))] ++ [(q57, .inl (tA 0, 512, .inl (fun _ => 0)))] ++ [(q66, .inl (tA 0, 512, .inl (fun _ => 0)))] ++ [(q74, .inl (tA 0, 40, .inl (fun _ => 0)))] ++ [(q82, .inl (tA 0, 40, .inl (fun _ => 0)))] ++ [(q89, .inl (tA 0, 0, .inl (fun _ => 0)))] ++ [(q98, .inl (tA 1, 4097, .inl (fun _ => 0)))] ++ [(q107, .inl (tA 0, 512, .inl (fun _ => 0)))] ++ w_Fr tA q113 u113)
theorem f_So : ∀ j, j < 18 → defaultValue (t_So j) = vp_V [.null, .null, .null, .null, .null, .null, .null, .null, .null, .null, .int 0, .null, .int 0, .int 0, .long 0, .null, .null, .null] j := by decide +kernel
set_option maxHeartbeats 4000000 in
set_option maxRecDepth 100000 in
theorem c_So_init (l : Launch) (D : va_G) (tA : Nat → ClassId) (h0 g1 sz : Nat) : zMv l ({ cls := "ChanceArena$Solver", name := "<init>", desc := "(LChanceArena$Game;)V" } : Jvm.MethodName) (zW (Jvm.Cond.code ({ cls := "ChanceArena$Solver", name := "<init>", desc := "(LChanceArena$Game;)V" } : Jvm.MethodName) prog_11_method_1_code (2 : Nat) (Option.none : Option Jvm.ClassFile.FieldType))) { frames := 4, cells := 134, slots := 11059, locals := 72 } [.ref h0, .ref g1] D tA [(h0, .inr (7, [.null, .null, .null, .null, .null, .null, .null, .null, .null, .null, .int 0, .null, .int 0, .int 0, .long 0, .null, .null, .null]))] sz (fun _ : S_So => True) (w_So tA h0 g1) 134 11059 := by
  refine zOpen (fun A => va_Qv _ (zPost D A (w_So tA h0 g1)) A) (lv := [(0, .ref h0), (1, .ref g1)]) (by decide) rfl (Nat.le_of_ble_eq_true rfl) rfl ?_
  intro p e s m below meth c A ls hx hb hr hml hh hg hown hlocks hnm hK hA hP hD0 hAw hS hl
  have hD := zD hD0 hAw
  refine lv_aload_n hx hb d_So_init_0 rfl (lv_at hl 0 rfl) ?_
  refine W.objInit hx hb hown (hg _ k2_226) (hg _ k1_46) (hg _ k1_47) rfl (by rw [hml]; exact hl.1) rfl d_So_init_1 (Nat.le_of_ble_eq_true rfl) (Nat.le_of_ble_eq_true rfl) ?_
  refine lv_aload_n hx hb d_So_init_4 rfl (lv_at hl 0 rfl) ?_
  refine va_new (ci := 8) (fs := [.null, .null, .null, .null, .null, .null, .null, .null, .null, .null, .null]) (C := R_Sc) (T := T_Sc) (N := 11) hx hb hg i_Sc t_Sc o_Sc hown (hg _ k2_227) (hg _ k2_228) (hg _ k1_9) hK hP hD hS hA rfl f_Sc (Nat.le_of_ble_eq_true rfl) (Nat.le_of_ble_eq_true rfl) d_So_init_5 (fun q5 H1 hP1 hD1 hS1 => ?_)
  clear hP hD hS
  refine lv_dup hx hb d_So_init_8 rfl ?_
  refine zInit hP1 hD1 hS1 hA (va_runIN (As := []) (rest := [.ref q5, .ref h0]) ⟨hx, hb, hml, hown, hg⟩ (c_Sc_init l D tA q5 H1.size) ⟨va_cnB 0 hg (zGood k2_231 rfl) rfl rfl rfl (va_Nw.of rfl (hg _ k2_229)) (hg _ k1_9) (by decide +kernel) ⟨(Nat.le_of_ble_eq_true rfl), (Nat.le_of_ble_eq_true rfl)⟩, rfl, hg _ k2_230⟩ (zPreI hh hK hP1 hD1) rfl rfl hl.1 rfl (lv_room (Nat.le_of_ble_eq_true rfl)) d_So_init_9 ⟨(Nat.le_of_ble_eq_true rfl), (Nat.le_of_ble_eq_true rfl)⟩) (fun u5 H2 locs2 _ hP2 hD2 hS2 => ?_)
  clear hP1 hD1 hS1
  refine zCons (fun T9 e9 hP3 hD3 => ?_) hP2 hD2
  clear hP2 hD2
  refine va_putF (D := D) (ci := 7) (v := .ref q5) (ty := .object "ChanceArena$Scales") (C := R_So) (T := T_So) (N := 18) hx hb hg i_So t_So o_So n_So hown hK hP3 hD3 hS2 0 rfl rfl 0 (by decide) (hg _ k3_105) (fun _ h9 => h9) rfl hnm rfl (by decide +kernel) rfl rfl (Nat.le_of_ble_eq_true rfl) d_So_init_12 (fun H4 locs4 hP4 hD4 hS4 => ?_)
  clear hP3 hD3 hS2
  replace hP4 : va_P D vwCl ((h0, .inr (7, [.ref q5, .null, .null, .null, .null, .null, .null, .null, .null, .null, .int 0, .null, .int 0, .int 0, .long 0, .null, .null, .null])) :: T9) _ := hP4
  replace hD4 : va_D A ((h0, .inr (7, [.ref q5, .null, .null, .null, .null, .null, .null, .null, .null, .null, .int 0, .null, .int 0, .int 0, .long 0, .null, .null, .null])) :: T9) := hD4
  refine lv_aload_n hx hb d_So_init_15 rfl (lv_at hl 0 rfl) ?_
  refine lv_sipush (v := 512) hx hb d_So_init_16 (by decide) ?_
  refine zNewa (atype := .int) (ty := .int) (a0 := (512, .inl (fun _ => 0))) (N' := 512) hx hb rfl (hg _ k1_82) hK hP4 hD4 hS4 hA 0 rfl (fun _ h => by cases h) (fun _ => rfl) (by decide) (by decide) (by decide) (Nat.le_of_ble_eq_true rfl) (Nat.le_of_ble_eq_true rfl) d_So_init_19 (fun q19 H5 hP5 hD5 hS5 => ?_)
  clear hP4 hD4 hS4
  refine zCons (fun T19 e19 hP6 hD6 => ?_) hP5 hD5
  clear hP5 hD5
  refine va_putF (D := D) (ci := 7) (v := .ref q19) (ty := .array .int) (C := R_So) (T := T_So) (N := 18) hx hb hg i_So t_So o_So n_So hown hK hP6 hD6 hS5 0 rfl rfl 1 (by decide) (hg _ k3_107) (fun _ h9 => h9) rfl hnm rfl (by decide +kernel) rfl rfl (Nat.le_of_ble_eq_true rfl) d_So_init_21 (fun H7 locs7 hP7 hD7 hS7 => ?_)
  clear hP6 hD6 hS5
  replace hP7 : va_P D vwCl ((h0, .inr (7, [.ref q5, .ref q19, .null, .null, .null, .null, .null, .null, .null, .null, .int 0, .null, .int 0, .int 0, .long 0, .null, .null, .null])) :: T19) _ := hP7
  replace hD7 : va_D A ((h0, .inr (7, [.ref q5, .ref q19, .null, .null, .null, .null, .null, .null, .null, .null, .int 0, .null, .int 0, .int 0, .long 0, .null, .null, .null])) :: T19) := hD7
  refine lv_aload_n hx hb d_So_init_24 rfl (lv_at hl 0 rfl) ?_
  refine lv_sipush (v := 512) hx hb d_So_init_25 (by decide) ?_
  refine zNewa (atype := .int) (ty := .int) (a0 := (512, .inl (fun _ => 0))) (N' := 512) hx hb rfl (hg _ k1_82) hK hP7 hD7 hS7 hA 0 rfl (fun _ h => by cases h) (fun _ => rfl) (by decide) (by decide) (by decide) (Nat.le_of_ble_eq_true rfl) (Nat.le_of_ble_eq_true rfl) d_So_init_28 (fun q28 H8 hP8 hD8 hS8 => ?_)
  clear hP7 hD7 hS7
  refine zCons (fun T28 e28 hP9 hD9 => ?_) hP8 hD8
  clear hP8 hD8
  refine va_putF (D := D) (ci := 7) (v := .ref q28) (ty := .array .int) (C := R_So) (T := T_So) (N := 18) hx hb hg i_So t_So o_So n_So hown hK hP9 hD9 hS8 0 rfl rfl 2 (by decide) (hg _ k3_109) (fun _ h9 => h9) rfl hnm rfl (by decide +kernel) rfl rfl (Nat.le_of_ble_eq_true rfl) d_So_init_30 (fun H10 locs10 hP10 hD10 hS10 => ?_)
  clear hP9 hD9 hS8
  replace hP10 : va_P D vwCl ((h0, .inr (7, [.ref q5, .ref q19, .ref q28, .null, .null, .null, .null, .null, .null, .null, .int 0, .null, .int 0, .int 0, .long 0, .null, .null, .null])) :: T28) _ := hP10
  replace hD10 : va_D A ((h0, .inr (7, [.ref q5, .ref q19, .ref q28, .null, .null, .null, .null, .null, .null, .null, .int 0, .null, .int 0, .int 0, .long 0, .null, .null, .null])) :: T28) := hD10
  refine lv_aload_n hx hb d_So_init_33 rfl (lv_at hl 0 rfl) ?_
  refine va_new (ci := 11) (fs := [.null, .null, .null, .null, .null, .null, .null]) (C := R_Re) (T := T_Re) (N := 7) hx hb hg i_Re t_Re o_Re hown (hg _ k3_70) (hg _ k3_71) (hg _ k1_12) hK hP10 hD10 hS10 hA rfl f_Re (Nat.le_of_ble_eq_true rfl) (Nat.le_of_ble_eq_true rfl) d_So_init_34 (fun q34 H11 hP11 hD11 hS11 => ?_)
  clear hP10 hD10 hS10
  refine lv_dup hx hb d_So_init_37 rfl ?_
  refine zInit hP11 hD11 hS11 hA (va_runI (As := []) (rest := [.ref q34, .ref h0]) ⟨hx, hb, hml, hown, hg⟩ (c_Re_init l D tA q34 H11.size) (cwI 0 hg (zGood k3_74 rfl) rfl rfl rfl (hg _ k1_12) (hg _ k3_72) (hg _ k3_73) rfl (by decide +kernel) ⟨(Nat.le_of_ble_eq_true rfl), (Nat.le_of_ble_eq_true rfl)⟩) (zPreI hh hK hP11 hD11) rfl rfl hl.1 rfl (lv_room (Nat.le_of_ble_eq_true rfl)) d_So_init_38 ⟨(Nat.le_of_ble_eq_true rfl), (Nat.le_of_ble_eq_true rfl)⟩) (fun u34 H12 locs12 _ hP12 hD12 hS12 => ?_)
  clear hP11 hD11 hS11
  refine zCons (fun T38 e38 hP13 hD13 => ?_) hP12 hD12
  clear hP12 hD12
  refine va_putF (D := D) (ci := 7) (v := .ref q34) (ty := .object "ChanceArena$Residues") (C := R_So) (T := T_So) (N := 18) hx hb hg i_So t_So o_So n_So hown hK hP13 hD13 hS12 0 rfl rfl 4 (by decide) (hg _ k3_112) (fun _ h9 => h9) rfl hnm rfl (by decide +kernel) rfl rfl (Nat.le_of_ble_eq_true rfl) d_So_init_41 (fun H14 locs14 hP14 hD14 hS14 => ?_)
  clear hP13 hD13 hS12
  replace hP14 : va_P D vwCl ((h0, .inr (7, [.ref q5, .ref q19, .ref q28, .null, .ref q34, .null, .null, .null, .null, .null, .int 0, .null, .int 0, .int 0, .long 0, .null, .null, .null])) :: T38) _ := hP14
  replace hD14 : va_D A ((h0, .inr (7, [.ref q5, .ref q19, .ref q28, .null, .ref q34, .null, .null, .null, .null, .null, .int 0, .null, .int 0, .int 0, .long 0, .null, .null, .null])) :: T38) := hD14
  refine lv_aload_n hx hb d_So_init_44 rfl (lv_at hl 0 rfl) ?_
  refine lv_sipush (v := 512) hx hb d_So_init_45 (by decide) ?_
  refine zNewa (atype := .int) (ty := .int) (a0 := (512, .inl (fun _ => 0))) (N' := 512) hx hb rfl (hg _ k1_82) hK hP14 hD14 hS14 hA 0 rfl (fun _ h => by cases h) (fun _ => rfl) (by decide) (by decide) (by decide) (Nat.le_of_ble_eq_true rfl) (Nat.le_of_ble_eq_true rfl) d_So_init_48 (fun q48 H15 hP15 hD15 hS15 => ?_)
  clear hP14 hD14 hS14
  refine zCons (fun T48 e48 hP16 hD16 => ?_) hP15 hD15
  clear hP15 hD15
  refine va_putF (D := D) (ci := 7) (v := .ref q48) (ty := .array .int) (C := R_So) (T := T_So) (N := 18) hx hb hg i_So t_So o_So n_So hown hK hP16 hD16 hS15 0 rfl rfl 5 (by decide) (hg _ k3_113) (fun _ h9 => h9) rfl hnm rfl (by decide +kernel) rfl rfl (Nat.le_of_ble_eq_true rfl) d_So_init_50 (fun H17 locs17 hP17 hD17 hS17 => ?_)
  clear hP16 hD16 hS15
  replace hP17 : va_P D vwCl ((h0, .inr (7, [.ref q5, .ref q19, .ref q28, .null, .ref q34, .ref q48, .null, .null, .null, .null, .int 0, .null, .int 0, .int 0, .long 0, .null, .null, .null])) :: T48) _ := hP17
  replace hD17 : va_D A ((h0, .inr (7, [.ref q5, .ref q19, .ref q28, .null, .ref q34, .ref q48, .null, .null, .null, .null, .int 0, .null, .int 0, .int 0, .long 0, .null, .null, .null])) :: T48) := hD17
  refine lv_aload_n hx hb d_So_init_53 rfl (lv_at hl 0 rfl) ?_
  refine lv_sipush (v := 512) hx hb d_So_init_54 (by decide) ?_
  refine zNewa (atype := .int) (ty := .int) (a0 := (512, .inl (fun _ => 0))) (N' := 512) hx hb rfl (hg _ k1_82) hK hP17 hD17 hS17 hA 0 rfl (fun _ h => by cases h) (fun _ => rfl) (by decide) (by decide) (by decide) (Nat.le_of_ble_eq_true rfl) (Nat.le_of_ble_eq_true rfl) d_So_init_57 (fun q57 H18 hP18 hD18 hS18 => ?_)
  clear hP17 hD17 hS17
  refine zCons (fun T57 e57 hP19 hD19 => ?_) hP18 hD18
  clear hP18 hD18
  refine va_putF (D := D) (ci := 7) (v := .ref q57) (ty := .array .int) (C := R_So) (T := T_So) (N := 18) hx hb hg i_So t_So o_So n_So hown hK hP19 hD19 hS18 0 rfl rfl 6 (by decide) (hg _ k3_114) (fun _ h9 => h9) rfl hnm rfl (by decide +kernel) rfl rfl (Nat.le_of_ble_eq_true rfl) d_So_init_59 (fun H20 locs20 hP20 hD20 hS20 => ?_)
  clear hP19 hD19 hS18
  replace hP20 : va_P D vwCl ((h0, .inr (7, [.ref q5, .ref q19, .ref q28, .null, .ref q34, .ref q48, .ref q57, .null, .null, .null, .int 0, .null, .int 0, .int 0, .long 0, .null, .null, .null])) :: T57) _ := hP20
  replace hD20 : va_D A ((h0, .inr (7, [.ref q5, .ref q19, .ref q28, .null, .ref q34, .ref q48, .ref q57, .null, .null, .null, .int 0, .null, .int 0, .int 0, .long 0, .null, .null, .null])) :: T57) := hD20
  refine lv_aload_n hx hb d_So_init_62 rfl (lv_at hl 0 rfl) ?_
  refine lv_sipush (v := 512) hx hb d_So_init_63 (by decide) ?_
  refine zNewa (atype := .int) (ty := .int) (a0 := (512, .inl (fun _ => 0))) (N' := 512) hx hb rfl (hg _ k1_82) hK hP20 hD20 hS20 hA 0 rfl (fun _ h => by cases h) (fun _ => rfl) (by decide) (by decide) (by decide) (Nat.le_of_ble_eq_true rfl) (Nat.le_of_ble_eq_true rfl) d_So_init_66 (fun q66 H21 hP21 hD21 hS21 => ?_)
  clear hP20 hD20 hS20
  refine zCons (fun T66 e66 hP22 hD22 => ?_) hP21 hD21
  clear hP21 hD21
  refine va_putF (D := D) (ci := 7) (v := .ref q66) (ty := .array .int) (C := R_So) (T := T_So) (N := 18) hx hb hg i_So t_So o_So n_So hown hK hP22 hD22 hS21 0 rfl rfl 7 (by decide) (hg _ k3_115) (fun _ h9 => h9) rfl hnm rfl (by decide +kernel) rfl rfl (Nat.le_of_ble_eq_true rfl) d_So_init_68 (fun H23 locs23 hP23 hD23 hS23 => ?_)
  clear hP22 hD22 hS21
  replace hP23 : va_P D vwCl ((h0, .inr (7, [.ref q5, .ref q19, .ref q28, .null, .ref q34, .ref q48, .ref q57, .ref q66, .null, .null, .int 0, .null, .int 0, .int 0, .long 0, .null, .null, .null])) :: T66) _ := hP23
  replace hD23 : va_D A ((h0, .inr (7, [.ref q5, .ref q19, .ref q28, .null, .ref q34, .ref q48, .ref q57, .ref q66, .null, .null, .int 0, .null, .int 0, .int 0, .long 0, .null, .null, .null])) :: T66) := hD23
  refine lv_aload_n hx hb d_So_init_71 rfl (lv_at hl 0 rfl) ?_
  refine lv_bipush (v := 40) hx hb d_So_init_72 (by decide) ?_
  refine zNewa (atype := .int) (ty := .int) (a0 := (40, .inl (fun _ => 0))) (N' := 40) hx hb rfl (hg _ k1_82) hK hP23 hD23 hS23 hA 0 rfl (fun _ h => by cases h) (fun _ => rfl) (by decide) (by decide) (by decide) (Nat.le_of_ble_eq_true rfl) (Nat.le_of_ble_eq_true rfl) d_So_init_74 (fun q74 H24 hP24 hD24 hS24 => ?_)
  clear hP23 hD23 hS23
  refine zCons (fun T74 e74 hP25 hD25 => ?_) hP24 hD24
  clear hP24 hD24
  refine va_putF (D := D) (ci := 7) (v := .ref q74) (ty := .array .int) (C := R_So) (T := T_So) (N := 18) hx hb hg i_So t_So o_So n_So hown hK hP25 hD25 hS24 0 rfl rfl 8 (by decide) (hg _ k3_116) (fun _ h9 => h9) rfl hnm rfl (by decide +kernel) rfl rfl (Nat.le_of_ble_eq_true rfl) d_So_init_76 (fun H26 locs26 hP26 hD26 hS26 => ?_)
  clear hP25 hD25 hS24
  replace hP26 : va_P D vwCl ((h0, .inr (7, [.ref q5, .ref q19, .ref q28, .null, .ref q34, .ref q48, .ref q57, .ref q66, .ref q74, .null, .int 0, .null, .int 0, .int 0, .long 0, .null, .null, .null])) :: T74) _ := hP26
  replace hD26 : va_D A ((h0, .inr (7, [.ref q5, .ref q19, .ref q28, .null, .ref q34, .ref q48, .ref q57, .ref q66, .ref q74, .null, .int 0, .null, .int 0, .int 0, .long 0, .null, .null, .null])) :: T74) := hD26
  refine lv_aload_n hx hb d_So_init_79 rfl (lv_at hl 0 rfl) ?_
  refine lv_bipush (v := 40) hx hb d_So_init_80 (by decide) ?_
  refine zNewa (atype := .int) (ty := .int) (a0 := (40, .inl (fun _ => 0))) (N' := 40) hx hb rfl (hg _ k1_82) hK hP26 hD26 hS26 hA 0 rfl (fun _ h => by cases h) (fun _ => rfl) (by decide) (by decide) (by decide) (Nat.le_of_ble_eq_true rfl) (Nat.le_of_ble_eq_true rfl) d_So_init_82 (fun q82 H27 hP27 hD27 hS27 => ?_)
  clear hP26 hD26 hS26
  refine zCons (fun T82 e82 hP28 hD28 => ?_) hP27 hD27
  clear hP27 hD27
  refine va_putF (D := D) (ci := 7) (v := .ref q82) (ty := .array .int) (C := R_So) (T := T_So) (N := 18) hx hb hg i_So t_So o_So n_So hown hK hP28 hD28 hS27 0 rfl rfl 9 (by decide) (hg _ k3_117) (fun _ h9 => h9) rfl hnm rfl (by decide +kernel) rfl rfl (Nat.le_of_ble_eq_true rfl) d_So_init_84 (fun H29 locs29 hP29 hD29 hS29 => ?_)
  clear hP28 hD28 hS27
  replace hP29 : va_P D vwCl ((h0, .inr (7, [.ref q5, .ref q19, .ref q28, .null, .ref q34, .ref q48, .ref q57, .ref q66, .ref q74, .ref q82, .int 0, .null, .int 0, .int 0, .long 0, .null, .null, .null])) :: T82) _ := hP29
  replace hD29 : va_D A ((h0, .inr (7, [.ref q5, .ref q19, .ref q28, .null, .ref q34, .ref q48, .ref q57, .ref q66, .ref q74, .ref q82, .int 0, .null, .int 0, .int 0, .long 0, .null, .null, .null])) :: T82) := hD29
  refine lv_aload_n hx hb d_So_init_87 rfl (lv_at hl 0 rfl) ?_
  refine lv_iconst (v := 0) hx hb d_So_init_88 (by decide) ?_
  refine zNewa (atype := .int) (ty := .int) (a0 := (0, .inl (fun _ => 0))) (N' := 0) hx hb rfl (hg _ k1_82) hK hP29 hD29 hS29 hA 0 rfl (fun _ h => by cases h) (fun _ => rfl) (by decide) (by decide) (by decide) (Nat.le_of_ble_eq_true rfl) (Nat.le_of_ble_eq_true rfl) d_So_init_89 (fun q89 H30 hP30 hD30 hS30 => ?_)
  clear hP29 hD29 hS29
  refine zCons (fun T89 e89 hP31 hD31 => ?_) hP30 hD30
  clear hP30 hD30
  refine va_put (D := D) (ci := 7) (v := .ref q89) (ty := .array .int) (C := R_So) (T := T_So) (N := 18) hx hb hg i_So t_So o_So n_So hown hK hP31 hD31 hS30 0 rfl rfl 11 (by decide) (hg _ k3_119) (fun _ h9 => h9) rfl (by decide +kernel) rfl rfl (Nat.le_of_ble_eq_true rfl) d_So_init_91 (fun H32 locs32 hP32 hD32 hS32 => ?_)
  clear hP31 hD31 hS30
  replace hP32 : va_P D vwCl ((h0, .inr (7, [.ref q5, .ref q19, .ref q28, .null, .ref q34, .ref q48, .ref q57, .ref q66, .ref q74, .ref q82, .int 0, .ref q89, .int 0, .int 0, .long 0, .null, .null, .null])) :: T89) _ := hP32
  replace hD32 : va_D A ((h0, .inr (7, [.ref q5, .ref q19, .ref q28, .null, .ref q34, .ref q48, .ref q57, .ref q66, .ref q74, .ref q82, .int 0, .ref q89, .int 0, .int 0, .long 0, .null, .null, .null])) :: T89) := hD32
  refine lv_aload_n hx hb d_So_init_94 rfl (lv_at hl 0 rfl) ?_
  refine lv_sipush (v := 4097) hx hb d_So_init_95 (by decide) ?_
  refine zNewa (atype := .boolean) (ty := .boolean) (a0 := (4097, .inl (fun _ => 0))) (N' := 4097) hx hb rfl (hg _ k1_162) hK hP32 hD32 hS32 hA 1 rfl (fun _ h => by cases h) (fun _ => rfl) (by decide) (by decide) (by decide) (Nat.le_of_ble_eq_true rfl) (Nat.le_of_ble_eq_true rfl) d_So_init_98 (fun q98 H33 hP33 hD33 hS33 => ?_)
  clear hP32 hD32 hS32
  refine zCons (fun T98 e98 hP34 hD34 => ?_) hP33 hD33
  clear hP33 hD33
  refine va_putF (D := D) (ci := 7) (v := .ref q98) (ty := .array .boolean) (C := R_So) (T := T_So) (N := 18) hx hb hg i_So t_So o_So n_So hown hK hP34 hD34 hS33 0 rfl rfl 15 (by decide) (hg _ k3_123) (fun _ h9 => h9) rfl hnm rfl (by decide +kernel) rfl rfl (Nat.le_of_ble_eq_true rfl) d_So_init_100 (fun H35 locs35 hP35 hD35 hS35 => ?_)
  clear hP34 hD34 hS33
  replace hP35 : va_P D vwCl ((h0, .inr (7, [.ref q5, .ref q19, .ref q28, .null, .ref q34, .ref q48, .ref q57, .ref q66, .ref q74, .ref q82, .int 0, .ref q89, .int 0, .int 0, .long 0, .ref q98, .null, .null])) :: T98) _ := hP35
  replace hD35 : va_D A ((h0, .inr (7, [.ref q5, .ref q19, .ref q28, .null, .ref q34, .ref q48, .ref q57, .ref q66, .ref q74, .ref q82, .int 0, .ref q89, .int 0, .int 0, .long 0, .ref q98, .null, .null])) :: T98) := hD35
  refine lv_aload_n hx hb d_So_init_103 rfl (lv_at hl 0 rfl) ?_
  refine lv_sipush (v := 512) hx hb d_So_init_104 (by decide) ?_
  refine zNewa (atype := .int) (ty := .int) (a0 := (512, .inl (fun _ => 0))) (N' := 512) hx hb rfl (hg _ k1_82) hK hP35 hD35 hS35 hA 0 rfl (fun _ h => by cases h) (fun _ => rfl) (by decide) (by decide) (by decide) (Nat.le_of_ble_eq_true rfl) (Nat.le_of_ble_eq_true rfl) d_So_init_107 (fun q107 H36 hP36 hD36 hS36 => ?_)
  clear hP35 hD35 hS35
  refine zCons (fun T107 e107 hP37 hD37 => ?_) hP36 hD36
  clear hP36 hD36
  refine va_putF (D := D) (ci := 7) (v := .ref q107) (ty := .array .int) (C := R_So) (T := T_So) (N := 18) hx hb hg i_So t_So o_So n_So hown hK hP37 hD37 hS36 0 rfl rfl 16 (by decide) (hg _ k3_124) (fun _ h9 => h9) rfl hnm rfl (by decide +kernel) rfl rfl (Nat.le_of_ble_eq_true rfl) d_So_init_109 (fun H38 locs38 hP38 hD38 hS38 => ?_)
  clear hP37 hD37 hS36
  replace hP38 : va_P D vwCl ((h0, .inr (7, [.ref q5, .ref q19, .ref q28, .null, .ref q34, .ref q48, .ref q57, .ref q66, .ref q74, .ref q82, .int 0, .ref q89, .int 0, .int 0, .long 0, .ref q98, .ref q107, .null])) :: T107) _ := hP38
  replace hD38 : va_D A ((h0, .inr (7, [.ref q5, .ref q19, .ref q28, .null, .ref q34, .ref q48, .ref q57, .ref q66, .ref q74, .ref q82, .int 0, .ref q89, .int 0, .int 0, .long 0, .ref q98, .ref q107, .null])) :: T107) := hD38
  refine lv_aload_n hx hb d_So_init_112 rfl (lv_at hl 0 rfl) ?_
  refine va_new (ci := 10) (fs := [.null, .null, .int 0]) (C := R_Fr) (T := T_Fr) (N := 3) hx hb hg i_Fr t_Fr o_Fr hown (hg _ k3_103) (hg _ k3_11) (hg _ k1_11) hK hP38 hD38 hS38 hA rfl f_Fr (Nat.le_of_ble_eq_true rfl) (Nat.le_of_ble_eq_true rfl) d_So_init_113 (fun q113 H39 hP39 hD39 hS39 => ?_)
  clear hP38 hD38 hS38
  refine lv_dup hx hb d_So_init_116 rfl ?_
  refine zInit hP39 hD39 hS39 hA (va_runIN (As := []) (rest := [.ref q113, .ref h0]) ⟨hx, hb, hml, hown, hg⟩ (c_Fr_init l D tA q113 H39.size) ⟨va_cnB 0 hg (zGood k3_14 rfl) rfl rfl rfl (va_Nw.of rfl (hg _ k3_104)) (hg _ k1_11) (by decide +kernel) ⟨(Nat.le_of_ble_eq_true rfl), (Nat.le_of_ble_eq_true rfl)⟩, rfl, hg _ k3_13⟩ (zPreI hh hK hP39 hD39) rfl rfl hl.1 rfl (lv_room (Nat.le_of_ble_eq_true rfl)) d_So_init_117 ⟨(Nat.le_of_ble_eq_true rfl), (Nat.le_of_ble_eq_true rfl)⟩) (fun u113 H40 locs40 _ hP40 hD40 hS40 => ?_)
  clear hP39 hD39 hS39
  refine zCons (fun T117 e117 hP41 hD41 => ?_) hP40 hD40
  clear hP40 hD40
  refine va_putF (D := D) (ci := 7) (v := .ref q113) (ty := .object "ChanceArena$Fraction") (C := R_So) (T := T_So) (N := 18) hx hb hg i_So t_So o_So n_So hown hK hP41 hD41 hS40 0 rfl rfl 17 (by decide) (hg _ k3_125) (fun _ h9 => h9) rfl hnm rfl (by decide +kernel) rfl rfl (Nat.le_of_ble_eq_true rfl) d_So_init_120 (fun H42 locs42 hP42 hD42 hS42 => ?_)
  clear hP41 hD41 hS40
  replace hP42 : va_P D vwCl ((h0, .inr (7, [.ref q5, .ref q19, .ref q28, .null, .ref q34, .ref q48, .ref q57, .ref q66, .ref q74, .ref q82, .int 0, .ref q89, .int 0, .int 0, .long 0, .ref q98, .ref q107, .ref q113])) :: T117) _ := hP42
  replace hD42 : va_D A ((h0, .inr (7, [.ref q5, .ref q19, .ref q28, .null, .ref q34, .ref q48, .ref q57, .ref q66, .ref q74, .ref q82, .int 0, .ref q89, .int 0, .int 0, .long 0, .ref q98, .ref q107, .ref q113])) :: T117) := hD42
  refine lv_aload_n hx hb d_So_init_123 rfl (lv_at hl 0 rfl) ?_
  refine lv_aload_n hx hb d_So_init_124 rfl (lv_at hl 1 rfl) ?_
  refine va_putF (D := D) (ci := 7) (v := .ref g1) (ty := .object "ChanceArena$Game") (C := R_So) (T := T_So) (N := 18) hx hb hg i_So t_So o_So n_So hown hK hP42 hD42 hS42 0 rfl rfl 3 (by decide) (hg _ k3_111) (fun _ h9 => h9) rfl hnm rfl (by decide +kernel) rfl rfl (Nat.le_of_ble_eq_true rfl) d_So_init_125 (fun H43 locs43 hP43 hD43 hS43 => ?_)
  clear hP42 hD42 hS42
  replace hP43 : va_P D vwCl ((h0, .inr (7, [.ref q5, .ref q19, .ref q28, .ref g1, .ref q34, .ref q48, .ref q57, .ref q66, .ref q74, .ref q82, .int 0, .ref q89, .int 0, .int 0, .long 0, .ref q98, .ref q107, .ref q113])) :: T117) _ := hP43
  replace hD43 : va_D A ((h0, .inr (7, [.ref q5, .ref q19, .ref q28, .ref g1, .ref q34, .ref q48, .ref q57, .ref q66, .ref q74, .ref q82, .int 0, .ref q89, .int 0, .int 0, .long 0, .ref q98, .ref q107, .ref q113])) :: T117) := hD43
  refine W.cs (cells' := 134) (slots' := 11059) rfl rfl ?_
  exact zVret hx hb hr hlocks hP43 hD43 hS43 ((q5, u5), q19, q28, (q34, u34), q48, q57, q66, q74, q82, q89, q98, q107, (q113, u113)) trivial (by rw [e117, e107, e98, e89, e82, e74, e66, e57, e48, e38, e28, e19, e9]; rfl) d_So_init_128
