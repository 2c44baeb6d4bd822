theorem k1_11 : (Jvm.Cond.initialized "ChanceArena$Fraction") ∈ lw_R := zR (zk_1 _ (List.mem_of_getElem? (i := 11) (by decide +kernel))) rfl
theorem k2_231 : (Jvm.Cond.code ({ cls := "ChanceArena$Scales", name := "<init>", desc := "()V" } : Jvm.MethodName) prog_10_method_1_code (1 : Nat) (Option.none : Option Jvm.ClassFile.FieldType)) ∈ lw_R := zR (zk_2 _ (List.mem_of_getElem? (i := 231) (by decide +kernel))) rfl
theorem k2_232 : (Jvm.Cond.methodLink "ChanceArena$Scales" (3 : Nat) ({ cls := "java/lang/Object", name := "<init>", desc := "()V" } : Jvm.MethodName)) ∈ lw_R := zR (zk_2 _ (List.mem_of_getElem? (i := 232) (by decide +kernel))) rfl
theorem k2_233 : (Jvm.Cond.classLink "ChanceArena$Scales" (9 : Nat) "ChanceArena$Natural") ∈ lw_R := zR (zk_2 _ (List.mem_of_getElem? (i := 233) (by decide +kernel))) rfl
theorem k2_235 : (Jvm.Cond.methodLinkNest "ChanceArena$Scales" (11 : Nat) ({ cls := "ChanceArena$Natural", name := "<init>", desc := "()V" } : Jvm.MethodName) "ChanceArena") ∈ lw_R := zR (zk_2 _ (List.mem_of_getElem? (i := 235) (by decide +kernel))) rfl
theorem k3_10 : (Jvm.Cond.classLink "ChanceArena$Scales" (43 : Nat) "ChanceArena$Fraction") ∈ lw_R := zR (zk_3 _ (List.mem_of_getElem? (i := 10) (by decide +kernel))) rfl
theorem k3_11 : (Jvm.Cond.instantiable "ChanceArena$Fraction" (3 : Nat)) ∈ lw_R := zR (zk_3 _ (List.mem_of_getElem? (i := 11) (by decide +kernel))) rfl
theorem k3_12 : (Jvm.Cond.methodLinkNest "ChanceArena$Scales" (45 : Nat) ({ cls := "ChanceArena$Fraction", name := "<init>", desc := "()V" } : Jvm.MethodName) "ChanceArena") ∈ lw_R := zR (zk_3 _ (List.mem_of_getElem? (i := 12) (by decide +kernel))) rfl
theorem k3_13 : (Jvm.Cond.instanceMethod ({ cls := "ChanceArena$Fraction", name := "<init>", desc := "()V" } : Jvm.MethodName)) ∈ lw_R := zR (zk_3 _ (List.mem_of_getElem? (i := 13) (by decide +kernel))) rfl
theorem k3_35 : (Jvm.Cond.arrayClass Jvm.ClassFile.FieldType.long) ∈ lw_R := zR (zk_3 _ (List.mem_of_getElem? (i := 35) (by decide +kernel))) rfl
theorem k3_36 : (Jvm.Cond.fieldLink "ChanceArena$Scales" (12 : Nat) "ChanceArena$Scales" "left" "LChanceArena$Natural;") ∈ lw_R := zR (zk_3 _ (List.mem_of_getElem? (i := 36) (by decide +kernel))) rfl
theorem k3_37 : (Jvm.Cond.fieldLink "ChanceArena$Scales" (18 : Nat) "ChanceArena$Scales" "right" "LChanceArena$Natural;") ∈ lw_R := zR (zk_3 _ (List.mem_of_getElem? (i := 37) (by decide +kernel))) rfl
theorem k3_38 : (Jvm.Cond.fieldLink "ChanceArena$Scales" (21 : Nat) "ChanceArena$Scales" "quotient" "LChanceArena$Natural;") ∈ lw_R := zR (zk_3 _ (List.mem_of_getElem? (i := 38) (by decide +kernel))) rfl
theorem k3_39 : (Jvm.Cond.fieldLink "ChanceArena$Scales" (24 : Nat) "ChanceArena$Scales" "scaled" "LChanceArena$Natural;") ∈ lw_R := zR (zk_3 _ (List.mem_of_getElem? (i := 39) (by decide +kernel))) rfl
theorem k3_40 : (Jvm.Cond.fieldLink "ChanceArena$Scales" (27 : Nat) "ChanceArena$Scales" "part" "LChanceArena$Natural;") ∈ lw_R := zR (zk_3 _ (List.mem_of_getElem? (i := 40) (by decide +kernel))) rfl
theorem k3_41 : (Jvm.Cond.fieldLink "ChanceArena$Scales" (30 : Nat) "ChanceArena$Scales" "product" "LChanceArena$Natural;") ∈ lw_R := zR (zk_3 _ (List.mem_of_getElem? (i := 41) (by decide +kernel))) rfl
theorem k3_42 : (Jvm.Cond.fieldLink "ChanceArena$Scales" (33 : Nat) "ChanceArena$Scales" "factors" "[J") ∈ lw_R := zR (zk_3 _ (List.mem_of_getElem? (i := 42) (by decide +kernel))) rfl
theorem k3_43 : (Jvm.Cond.fieldLink "ChanceArena$Scales" (37 : Nat) "ChanceArena$Scales" "sumPart" "LChanceArena$Natural;") ∈ lw_R := zR (zk_3 _ (List.mem_of_getElem? (i := 43) (by decide +kernel))) rfl
theorem k3_44 : (Jvm.Cond.fieldLink "ChanceArena$Scales" (40 : Nat) "ChanceArena$Scales" "termPart" "LChanceArena$Natural;") ∈ lw_R := zR (zk_3 _ (List.mem_of_getElem? (i := 44) (by decide +kernel))) rfl
theorem k3_45 : (Jvm.Cond.fieldLink "ChanceArena$Scales" (46 : Nat) "ChanceArena$Scales" "best" "LChanceArena$Fraction;") ∈ lw_R := zR (zk_3 _ (List.mem_of_getElem? (i := 45) (by decide +kernel))) rfl
theorem k3_46 : (Jvm.Cond.fieldLink "ChanceArena$Scales" (50 : Nat) "ChanceArena$Scales" "trial" "LChanceArena$Fraction;") ∈ lw_R := zR (zk_3 _ (List.mem_of_getElem? (i := 46) (by decide +kernel))) rfl
theorem d_Sc_init_0 : decode prog_10_method_1_code 0 = .ok (.aload_n 0, 1) := dc9_42 (by decide +kernel)
theorem d_Sc_init_1 : decode prog_10_method_1_code 1 = .ok (.invokespecial 3, 3) := dc9_183 (by decide +kernel)
theorem d_Sc_init_4 : decode prog_10_method_1_code 4 = .ok (.aload_n 0, 1) := dc9_42 (by decide +kernel)
theorem d_Sc_init_5 : decode prog_10_method_1_code 5 = .ok (.new 9, 3) := dc9_187 (by decide +kernel)
theorem d_Sc_init_8 : decode prog_10_method_1_code 8 = .ok (.dup, 1) := dc9_89 (by decide +kernel)
theorem d_Sc_init_9 : decode prog_10_method_1_code 9 = .ok (.invokespecial 11, 3) := dc9_183 (by decide +kernel)
theorem d_Sc_init_12 : decode prog_10_method_1_code 12 = .ok (.putfield 12, 3) := dc9_181 (by decide +kernel)
theorem d_Sc_init_15 : decode prog_10_method_1_code 15 = .ok (.aload_n 0, 1) := dc9_42 (by decide +kernel)
theorem d_Sc_init_16 : decode prog_10_method_1_code 16 = .ok (.new 9, 3) := dc9_187 (by decide +kernel)
theorem d_Sc_init_19 : decode prog_10_method_1_code 19 = .ok (.dup, 1) := dc9_89 (by decide +kernel)
theorem d_Sc_init_20 : decode prog_10_method_1_code 20 = .ok (.invokespecial 11, 3) := dc9_183 (by decide +kernel)
theorem d_Sc_init_23 : decode prog_10_method_1_code 23 = .ok (.putfield 18, 3) := dc9_181 (by decide +kernel)
theorem d_Sc_init_26 : decode prog_10_method_1_code 26 = .ok (.aload_n 0, 1) := dc9_42 (by decide +kernel)
theorem d_Sc_init_27 : decode prog_10_method_1_code 27 = .ok (.new 9, 3) := dc9_187 (by decide +kernel)
theorem d_Sc_init_30 : decode prog_10_method_1_code 30 = .ok (.dup, 1) := dc9_89 (by decide +kernel)
theorem d_Sc_init_31 : decode prog_10_method_1_code 31 = .ok (.invokespecial 11, 3) := dc9_183 (by decide +kernel)
theorem d_Sc_init_34 : decode prog_10_method_1_code 34 = .ok (.putfield 21, 3) := dc9_181 (by decide +kernel)
theorem d_Sc_init_37 : decode prog_10_method_1_code 37 = .ok (.aload_n 0, 1) := dc9_42 (by decide +kernel)
theorem d_Sc_init_38 : decode prog_10_method_1_code 38 = .ok (.new 9, 3) := dc9_187 (by decide +kernel)
theorem d_Sc_init_41 : decode prog_10_method_1_code 41 = .ok (.dup, 1) := dc9_89 (by decide +kernel)
theorem d_Sc_init_42 : decode prog_10_method_1_code 42 = .ok (.invokespecial 11, 3) := dc9_183 (by decide +kernel)
theorem d_Sc_init_45 : decode prog_10_method_1_code 45 = .ok (.putfield 24, 3) := dc9_181 (by decide +kernel)
theorem d_Sc_init_48 : decode prog_10_method_1_code 48 = .ok (.aload_n 0, 1) := dc9_42 (by decide +kernel)
theorem d_Sc_init_49 : decode prog_10_method_1_code 49 = .ok (.new 9, 3) := dc9_187 (by decide +kernel)
theorem d_Sc_init_52 : decode prog_10_method_1_code 52 = .ok (.dup, 1) := dc9_89 (by decide +kernel)
theorem d_Sc_init_53 : decode prog_10_method_1_code 53 = .ok (.invokespecial 11, 3) := dc9_183 (by decide +kernel)
theorem d_Sc_init_56 : decode prog_10_method_1_code 56 = .ok (.putfield 27, 3) := dc9_181 (by decide +kernel)
theorem d_Sc_init_59 : decode prog_10_method_1_code 59 = .ok (.aload_n 0, 1) := dc9_42 (by decide +kernel)
theorem d_Sc_init_60 : decode prog_10_method_1_code 60 = .ok (.new 9, 3) := dc9_187 (by decide +kernel)
theorem d_Sc_init_63 : decode prog_10_method_1_code 63 = .ok (.dup, 1) := dc9_89 (by decide +kernel)
theorem d_Sc_init_64 : decode prog_10_method_1_code 64 = .ok (.invokespecial 11, 3) := dc9_183 (by decide +kernel)
theorem d_Sc_init_67 : decode prog_10_method_1_code 67 = .ok (.putfield 30, 3) := dc9_181 (by decide +kernel)
theorem d_Sc_init_70 : decode prog_10_method_1_code 70 = .ok (.aload_n 0, 1) := dc9_42 (by decide +kernel)
theorem d_Sc_init_71 : decode prog_10_method_1_code 71 = .ok (.iconst 4, 1) := dc9_7 (by decide +kernel)
theorem d_Sc_init_72 : decode prog_10_method_1_code 72 = .ok (.newarray .long, 2) := by decide +kernel
theorem d_Sc_init_74 : decode prog_10_method_1_code 74 = .ok (.putfield 33, 3) := dc9_181 (by decide +kernel)
theorem d_Sc_init_77 : decode prog_10_method_1_code 77 = .ok (.aload_n 0, 1) := dc9_42 (by decide +kernel)
theorem d_Sc_init_78 : decode prog_10_method_1_code 78 = .ok (.new 9, 3) := dc9_187 (by decide +kernel)
theorem d_Sc_init_81 : decode prog_10_method_1_code 81 = .ok (.dup, 1) := dc9_89 (by decide +kernel)
theorem d_Sc_init_82 : decode prog_10_method_1_code 82 = .ok (.invokespecial 11, 3) := dc9_183 (by decide +kernel)
theorem d_Sc_init_85 : decode prog_10_method_1_code 85 = .ok (.putfield 37, 3) := dc9_181 (by decide +kernel)
theorem d_Sc_init_88 : decode prog_10_method_1_code 88 = .ok (.aload_n 0, 1) := dc9_42 (by decide +kernel)
theorem d_Sc_init_89 : decode prog_10_method_1_code 89 = .ok (.new 9, 3) := dc9_187 (by decide +kernel)
theorem d_Sc_init_92 : decode prog_10_method_1_code 92 = .ok (.dup, 1) := dc9_89 (by decide +kernel)
theorem d_Sc_init_93 : decode prog_10_method_1_code 93 = .ok (.invokespecial 11, 3) := dc9_183 (by decide +kernel)
theorem d_Sc_init_96 : decode prog_10_method_1_code 96 = .ok (.putfield 40, 3) := dc9_181 (by decide +kernel)
theorem d_Sc_init_99 : decode prog_10_method_1_code 99 = .ok (.aload_n 0, 1) := dc9_42 (by decide +kernel)
theorem d_Sc_init_100 : decode prog_10_method_1_code 100 = .ok (.new 43, 3) := dc9_187 (by decide +kernel)
theorem d_Sc_init_103 : decode prog_10_method_1_code 103 = .ok (.dup, 1) := dc9_89 (by decide +kernel)
theorem d_Sc_init_104 : decode prog_10_method_1_code 104 = .ok (.invokespecial 45, 3) := dc9_183 (by decide +kernel)
theorem d_Sc_init_107 : decode prog_10_method_1_code 107 = .ok (.putfield 46, 3) := dc9_181 (by decide +kernel)
theorem d_Sc_init_110 : decode prog_10_method_1_code 110 = .ok (.aload_n 0, 1) := dc9_42 (by decide +kernel)
theorem d_Sc_init_111 : decode prog_10_method_1_code 111 = .ok (.new 43, 3) := dc9_187 (by decide +kernel)
theorem d_Sc_init_114 : decode prog_10_method_1_code 114 = .ok (.dup, 1) := dc9_89 (by decide +kernel)
theorem d_Sc_init_115 : decode prog_10_method_1_code 115 = .ok (.invokespecial 45, 3) := dc9_183 (by decide +kernel)
theorem d_Sc_init_118 : decode prog_10_method_1_code 118 = .ok (.putfield 50, 3) := dc9_181 (by decide +kernel)
theorem d_Sc_init_121 : decode prog_10_method_1_code 121 = .ok (.return_, 1) := dc9_177 (by decide +kernel)
abbrev S_Sc : Type := (Nat × S_Na) × (Nat × S_Na) × (Nat × S_Na) × (Nat × S_Na) × (Nat × S_Na) × (Nat × S_Na) × Nat × (Nat × S_Na) × (Nat × S_Na) × (Nat × S_Fr) × (Nat × S_Fr)
def w_Sc (tA : Nat → ClassId) (h0 : Nat) (u : S_Sc) : va_W := match u with
  | ((q5, u5), (q16, u16), (q27, u27), (q38, u38), (q49, u49), (q60, u60), q72, (q78, u78), (q89, u89), (q100, u100), (q111, u111)) => (h0, .inr (8, [.ref q5, .ref q16, .ref q27, .ref q38, .ref q49, .ref q60, .ref q72, .ref q78, .ref q89, .ref q100, .ref q111])) :: ([] ++ w_Na tA q5 u5 ++ w_Na tA q16 u16 ++ w_Na tA q27 u27 ++ w_Na tA q38 u38 ++ w_Na tA q49 u49 ++ w_Na tA q60 u60 ++ [(q72, .inl (tA 3, 4, .inr (.inl (fun _ => 0))))] ++ w_Na tA q78 u78 ++ w_Na tA q89 u89 ++ w_Fr tA q100 u100 ++ w_Fr tA q111 u111)
theorem f_Sc : ∀ j, j < 11 → defaultValue (t_Sc j) = vp_V [.null, .null, .null, .null, .null, .null, .null, .null, .null, .null, .null] j := by decide +kernel
set_option maxHeartbeats 4000000 in
set_option maxRecDepth 100000 in
theorem c_Sc_init (l : Launch) (D : va_G) (tA : Nat → ClassId) (h0 sz : Nat) : zMv l ({ cls := "ChanceArena$Scales", name := "<init>", desc := "()V" } : Jvm.MethodName) (zW (Jvm.Cond.code ({ cls := "ChanceArena$Scales", name := "<init>", desc := "()V" } : Jvm.MethodName) prog_10_method_1_code (1 : Nat) (Option.none : Option Jvm.ClassFile.FieldType))) { frames := 3, cells := 27, slots := 82, locals := 52 } [.ref h0] D tA [(h0, .inr (8, [.null, .null, .null, .null, .null, .null, .null, .null, .null, .null, .null]))] sz (fun _ : S_Sc => True) (w_Sc tA h0) 27 82 := by
  refine zOpen (fun A => va_Qv _ (zPost D A (w_Sc tA h0)) A) (lv := [(0, .ref h0)]) (by decide) rfl (Nat.le_of_ble_eq_true rfl) rfl ?_
  intro p e s m below meth c A ls hx hb hr hml hh hg hown hlocks hnm hK hA hP hD0 hAw hS hl
  have hD := zD hD0 hAw
  refine lv_aload_n hx hb d_Sc_init_0 rfl (lv_at hl 0 rfl) ?_
  refine W.objInit hx hb hown (hg _ k2_232) (hg _ k1_46) (hg _ k1_47) rfl (by rw [hml]; exact hl.1) rfl d_Sc_init_1 (Nat.le_of_ble_eq_true rfl) (Nat.le_of_ble_eq_true rfl) ?_
  refine lv_aload_n hx hb d_Sc_init_4 rfl (lv_at hl 0 rfl) ?_
  refine va_new (ci := 9) (fs := [.null, .int 0]) (C := R_Na) (T := T_Na) (N := 2) hx hb hg i_Na t_Na o_Na hown (hg _ k2_233) (hg _ k2_234) (hg _ k1_10) hK hP hD hS hA rfl f_Na (Nat.le_of_ble_eq_true rfl) (Nat.le_of_ble_eq_true rfl) d_Sc_init_5 (fun q5 H1 hP1 hD1 hS1 => ?_)
  clear hP hD hS
  refine lv_dup hx hb d_Sc_init_8 rfl ?_
  refine zInit hP1 hD1 hS1 hA (va_runIN (As := []) (rest := [.ref q5, .ref h0]) ⟨hx, hb, hml, hown, hg⟩ (c_Na_init l D tA q5 H1.size) ⟨va_cnB 0 hg (zGood k2_237 rfl) rfl rfl rfl (va_Nw.of rfl (hg _ k2_235)) (hg _ k1_10) (by decide +kernel) ⟨(Nat.le_of_ble_eq_true rfl), (Nat.le_of_ble_eq_true rfl)⟩, rfl, hg _ k2_236⟩ (zPreI hh hK hP1 hD1) rfl rfl hl.1 rfl (lv_room (Nat.le_of_ble_eq_true rfl)) d_Sc_init_9 ⟨(Nat.le_of_ble_eq_true rfl), (Nat.le_of_ble_eq_true rfl)⟩) (fun u5 H2 locs2 _ hP2 hD2 hS2 => ?_)
  clear hP1 hD1 hS1
  refine zCons (fun T9 e9 hP3 hD3 => ?_) hP2 hD2
  clear hP2 hD2
  refine va_putF (D := D) (ci := 8) (v := .ref q5) (ty := .object "ChanceArena$Natural") (C := R_Sc) (T := T_Sc) (N := 11) hx hb hg i_Sc t_Sc o_Sc n_Sc hown hK hP3 hD3 hS2 0 rfl rfl 0 (by decide) (hg _ k3_36) (fun _ h9 => h9) rfl hnm rfl (by decide +kernel) rfl rfl (Nat.le_of_ble_eq_true rfl) d_Sc_init_12 (fun H4 locs4 hP4 hD4 hS4 => ?_)
  clear hP3 hD3 hS2
  replace hP4 : va_P D vwCl ((h0, .inr (8, [.ref q5, .null, .null, .null, .null, .null, .null, .null, .null, .null, .null])) :: T9) _ := hP4
  replace hD4 : va_D A ((h0, .inr (8, [.ref q5, .null, .null, .null, .null, .null, .null, .null, .null, .null, .null])) :: T9) := hD4
  refine lv_aload_n hx hb d_Sc_init_15 rfl (lv_at hl 0 rfl) ?_
  refine va_new (ci := 9) (fs := [.null, .int 0]) (C := R_Na) (T := T_Na) (N := 2) hx hb hg i_Na t_Na o_Na hown (hg _ k2_233) (hg _ k2_234) (hg _ k1_10) hK hP4 hD4 hS4 hA rfl f_Na (Nat.le_of_ble_eq_true rfl) (Nat.le_of_ble_eq_true rfl) d_Sc_init_16 (fun q16 H5 hP5 hD5 hS5 => ?_)
  clear hP4 hD4 hS4
  refine lv_dup hx hb d_Sc_init_19 rfl ?_
  refine zInit hP5 hD5 hS5 hA (va_runIN (As := []) (rest := [.ref q16, .ref h0]) ⟨hx, hb, hml, hown, hg⟩ (c_Na_init l D tA q16 H5.size) ⟨va_cnB 0 hg (zGood k2_237 rfl) rfl rfl rfl (va_Nw.of rfl (hg _ k2_235)) (hg _ k1_10) (by decide +kernel) ⟨(Nat.le_of_ble_eq_true rfl), (Nat.le_of_ble_eq_true rfl)⟩, rfl, hg _ k2_236⟩ (zPreI hh hK hP5 hD5) rfl rfl hl.1 rfl (lv_room (Nat.le_of_ble_eq_true rfl)) d_Sc_init_20 ⟨(Nat.le_of_ble_eq_true rfl), (Nat.le_of_ble_eq_true rfl)⟩) (fun u16 H6 locs6 _ hP6 hD6 hS6 => ?_)
  clear hP5 hD5 hS5
  refine zCons (fun T20 e20 hP7 hD7 => ?_) hP6 hD6
  clear hP6 hD6
  refine va_putF (D := D) (ci := 8) (v := .ref q16) (ty := .object "ChanceArena$Natural") (C := R_Sc) (T := T_Sc) (N := 11) hx hb hg i_Sc t_Sc o_Sc n_Sc hown hK hP7 hD7 hS6 0 rfl rfl 1 (by decide) (hg _ k3_37) (fun _ h9 => h9) rfl hnm rfl (by decide +kernel) rfl rfl (Nat.le_of_ble_eq_true rfl) d_Sc_init_23 (fun H8 locs8 hP8 hD8 hS8 => ?_)
  clear hP7 hD7 hS6
  replace hP8 : va_P D vwCl ((h0, .inr (8, [.ref q5, .ref q16, .null, .null, .null, .null, .null, .null, .null, .null, .null])) :: T20) _ := hP8
  replace hD8 : va_D A ((h0, .inr (8, [.ref q5, .ref q16, .null, .null, .null, .null, .null, .null, .null, .null, .null])) :: T20) := hD8
  refine lv_aload_n hx hb d_Sc_init_26 rfl (lv_at hl 0 rfl) ?_
  refine va_new (ci := 9) (fs := [.null, .int 0]) (C := R_Na) (T := T_Na) (N := 2) hx hb hg i_Na t_Na o_Na hown (hg _ k2_233) (hg _ k2_234) (hg _ k1_10) hK hP8 hD8 hS8 hA rfl f_Na (Nat.le_of_ble_eq_true rfl) (Nat.le_of_ble_eq_true rfl) d_Sc_init_27 (fun q27 H9 hP9 hD9 hS9 => ?_)
  clear hP8 hD8 hS8
  refine lv_dup hx hb d_Sc_init_30 rfl ?_
  refine zInit hP9 hD9 hS9 hA (va_runIN (As := []) (rest := [.ref q27, .ref h0]) ⟨hx, hb, hml, hown, hg⟩ (c_Na_init l D tA q27 H9.size) ⟨va_cnB 0 hg (zGood k2_237 rfl) rfl rfl rfl (va_Nw.of rfl (hg _ k2_235)) (hg _ k1_10) (by decide +kernel) ⟨(Nat.le_of_ble_eq_true rfl), (Nat.le_of_ble_eq_true rfl)⟩, rfl, hg _ k2_236⟩ (zPreI hh hK hP9 hD9) rfl rfl hl.1 rfl (lv_room (Nat.le_of_ble_eq_true rfl)) d_Sc_init_31 ⟨(Nat.le_of_ble_eq_true rfl), (Nat.le_of_ble_eq_true rfl)⟩) (fun u27 H10 locs10 _ hP10 hD10 hS10 => ?_)
  clear hP9 hD9 hS9
  refine zCons (fun T31 e31 hP11 hD11 => ?_) hP10 hD10
  clear hP10 hD10
  refine va_putF (D := D) (ci := 8) (v := .ref q27) (ty := .object "ChanceArena$Natural") (C := R_Sc) (T := T_Sc) (N := 11) hx hb hg i_Sc t_Sc o_Sc n_Sc hown hK hP11 hD11 hS10 0 rfl rfl 2 (by decide) (hg _ k3_38) (fun _ h9 => h9) rfl hnm rfl (by decide +kernel) rfl rfl (Nat.le_of_ble_eq_true rfl) d_Sc_init_34 (fun H12 locs12 hP12 hD12 hS12 => ?_)
  clear hP11 hD11 hS10
  replace hP12 : va_P D vwCl ((h0, .inr (8, [.ref q5, .ref q16, .ref q27, .null, .null, .null, .null, .null, .null, .null, .null])) :: T31) _ := hP12
  replace hD12 : va_D A ((h0, .inr (8, [.ref q5, .ref q16, .ref q27, .null, .null, .null, .null, .null, .null, .null, .null])) :: T31) := hD12
  refine lv_aload_n hx hb d_Sc_init_37 rfl (lv_at hl 0 rfl) ?_
  refine va_new (ci := 9) (fs := [.null, .int 0]) (C := R_Na) (T := T_Na) (N := 2) hx hb hg i_Na t_Na o_Na hown (hg _ k2_233) (hg _ k2_234) (hg _ k1_10) hK hP12 hD12 hS12 hA rfl f_Na (Nat.le_of_ble_eq_true rfl) (Nat.le_of_ble_eq_true rfl) d_Sc_init_38 (fun q38 H13 hP13 hD13 hS13 => ?_)
  clear hP12 hD12 hS12
  refine lv_dup hx hb d_Sc_init_41 rfl ?_
  refine zInit hP13 hD13 hS13 hA (va_runIN (As := []) (rest := [.ref q38, .ref h0]) ⟨hx, hb, hml, hown, hg⟩ (c_Na_init l D tA q38 H13.size) ⟨va_cnB 0 hg (zGood k2_237 rfl) rfl rfl rfl (va_Nw.of rfl (hg _ k2_235)) (hg _ k1_10) (by decide +kernel) ⟨(Nat.le_of_ble_eq_true rfl), (Nat.le_of_ble_eq_true rfl)⟩, rfl, hg _ k2_236⟩ (zPreI hh hK hP13 hD13) rfl rfl hl.1 rfl (lv_room (Nat.le_of_ble_eq_true rfl)) d_Sc_init_42 ⟨(Nat.le_of_ble_eq_true rfl), (Nat.le_of_ble_eq_true rfl)⟩) (fun u38 H14 locs14 _ hP14 hD14 hS14 => ?_)
  clear hP13 hD13 hS13
  refine zCons (fun T42 e42 hP15 hD15 => ?_) hP14 hD14
  clear hP14 hD14
  refine va_putF (D := D) (ci := 8) (v := .ref q38) (ty := .object "ChanceArena$Natural") (C := R_Sc) (T := T_Sc) (N := 11) hx hb hg i_Sc t_Sc o_Sc n_Sc hown hK hP15 hD15 hS14 0 rfl rfl 3 (by decide) (hg _ k3_39) (fun _ h9 => h9) rfl hnm rfl (by decide +kernel) rfl rfl (Nat.le_of_ble_eq_true rfl) d_Sc_init_45 (fun H16 locs16 hP16 hD16 hS16 => ?_)
  clear hP15 hD15 hS14
  replace hP16 : va_P D vwCl ((h0, .inr (8, [.ref q5, .ref q16, .ref q27, .ref q38, .null, .null, .null, .null, .null, .null, .null])) :: T42) _ := hP16
  replace hD16 : va_D A ((h0, .inr (8, [.ref q5, .ref q16, .ref q27, .ref q38, .null, .null, .null, .null, .null, .null, .null])) :: T42) := hD16
  refine lv_aload_n hx hb d_Sc_init_48 rfl (lv_at hl 0 rfl) ?_
  refine va_new (ci := 9) (fs := [.null, .int 0]) (C := R_Na) (T := T_Na) (N := 2) hx hb hg i_Na t_Na o_Na hown (hg _ k2_233) (hg _ k2_234) (hg _ k1_10) hK hP16 hD16 hS16 hA rfl f_Na (Nat.le_of_ble_eq_true rfl) (Nat.le_of_ble_eq_true rfl) d_Sc_init_49 (fun q49 H17 hP17 hD17 hS17 => ?_)
  clear hP16 hD16 hS16
  refine lv_dup hx hb d_Sc_init_52 rfl ?_
  refine zInit hP17 hD17 hS17 hA (va_runIN (As := []) (rest := [.ref q49, .ref h0]) ⟨hx, hb, hml, hown, hg⟩ (c_Na_init l D tA q49 H17.size) ⟨va_cnB 0 hg (zGood k2_237 rfl) rfl rfl rfl (va_Nw.of rfl (hg _ k2_235)) (hg _ k1_10) (by decide +kernel) ⟨(Nat.le_of_ble_eq_true rfl), (Nat.le_of_ble_eq_true rfl)⟩, rfl, hg _ k2_236⟩ (zPreI hh hK hP17 hD17) rfl rfl hl.1 rfl (lv_room (Nat.le_of_ble_eq_true rfl)) d_Sc_init_53 ⟨(Nat.le_of_ble_eq_true rfl), (Nat.le_of_ble_eq_true rfl)⟩) (fun u49 H18 locs18 _ hP18 hD18 hS18 => ?_)
  clear hP17 hD17 hS17
  refine zCons (fun T53 e53 hP19 hD19 => ?_) hP18 hD18
  clear hP18 hD18
  refine va_putF (D := D) (ci := 8) (v := .ref q49) (ty := .object "ChanceArena$Natural") (C := R_Sc) (T := T_Sc) (N := 11) hx hb hg i_Sc t_Sc o_Sc n_Sc hown hK hP19 hD19 hS18 0 rfl rfl 4 (by decide) (hg _ k3_40) (fun _ h9 => h9) rfl hnm rfl (by decide +kernel) rfl rfl (Nat.le_of_ble_eq_true rfl) d_Sc_init_56 (fun H20 locs20 hP20 hD20 hS20 => ?_)
  clear hP19 hD19 hS18
  replace hP20 : va_P D vwCl ((h0, .inr (8, [.ref q5, .ref q16, .ref q27, .ref q38, .ref q49, .null, .null, .null, .null, .null, .null])) :: T53) _ := hP20
  replace hD20 : va_D A ((h0, .inr (8, [.ref q5, .ref q16, .ref q27, .ref q38, .ref q49, .null, .null, .null, .null, .null, .null])) :: T53) := hD20
  refine lv_aload_n hx hb d_Sc_init_59 rfl (lv_at hl 0 rfl) ?_
  refine va_new (ci := 9) (fs := [.null, .int 0]) (C := R_Na) (T := T_Na) (N := 2) hx hb hg i_Na t_Na o_Na hown (hg _ k2_233) (hg _ k2_234) (hg _ k1_10) hK hP20 hD20 hS20 hA rfl f_Na (Nat.le_of_ble_eq_true rfl) (Nat.le_of_ble_eq_true rfl) d_Sc_init_60 (fun q60 H21 hP21 hD21 hS21 => ?_)
  clear hP20 hD20 hS20
  refine lv_dup hx hb d_Sc_init_63 rfl ?_
  refine zInit hP21 hD21 hS21 hA (va_runIN (As := []) (rest := [.ref q60, .ref h0]) ⟨hx, hb, hml, hown, hg⟩ (c_Na_init l D tA q60 H21.size) ⟨va_cnB 0 hg (zGood k2_237 rfl) rfl rfl rfl (va_Nw.of rfl (hg _ k2_235)) (hg _ k1_10) (by decide +kernel) ⟨(Nat.le_of_ble_eq_true rfl), (Nat.le_of_ble_eq_true rfl)⟩, rfl, hg _ k2_236⟩ (zPreI hh hK hP21 hD21) rfl rfl hl.1 rfl (lv_room (Nat.le_of_ble_eq_true rfl)) d_Sc_init_64 ⟨(Nat.le_of_ble_eq_true rfl), (Nat.le_of_ble_eq_true rfl)⟩) (fun u60 H22 locs22 _ hP22 hD22 hS22 => ?_)
  clear hP21 hD21 hS21
  refine zCons (fun T64 e64 hP23 hD23 => ?_) hP22 hD22
  clear hP22 hD22
  refine va_putF (D := D) (ci := 8) (v := .ref q60) (ty := .object "ChanceArena$Natural") (C := R_Sc) (T := T_Sc) (N := 11) hx hb hg i_Sc t_Sc o_Sc n_Sc hown hK hP23 hD23 hS22 0 rfl rfl 5 (by decide) (hg _ k3_41) (fun _ h9 => h9) rfl hnm rfl (by decide +kernel) rfl rfl (Nat.le_of_ble_eq_true rfl) d_Sc_init_67 (fun H24 locs24 hP24 hD24 hS24 => ?_)
  clear hP23 hD23 hS22
  replace hP24 : va_P D vwCl ((h0, .inr (8, [.ref q5, .ref q16, .ref q27, .ref q38, .ref q49, .ref q60, .null, .null, .null, .null, .null])) :: T64) _ := hP24
  replace hD24 : va_D A ((h0, .inr (8, [.ref q5, .ref q16, .ref q27, .ref q38, .ref q49, .ref q60, .null, .null, .null, .null, .null])) :: T64) := hD24
  refine lv_aload_n hx hb d_Sc_init_70 rfl (lv_at hl 0 rfl) ?_
  refine lv_iconst (v := 4) hx hb d_Sc_init_71 (by decide) ?_
  refine zNewa (atype := .long) (ty := .long) (a0 := (4, .inr (.inl (fun _ => 0)))) (N' := 4) hx hb rfl (hg _ k3_35) hK hP24 hD24 hS24 hA 3 rfl (fun _ h => by cases h) (fun _ => rfl) (by decide) (by decide) (by decide) (Nat.le_of_ble_eq_true rfl) (Nat.le_of_ble_eq_true rfl) d_Sc_init_72 (fun q72 H25 hP25 hD25 hS25 => ?_)
  clear hP24 hD24 hS24
  refine zCons (fun T72 e72 hP26 hD26 => ?_) hP25 hD25
  clear hP25 hD25
  refine va_putF (D := D) (ci := 8) (v := .ref q72) (ty := .array .long) (C := R_Sc) (T := T_Sc) (N := 11) hx hb hg i_Sc t_Sc o_Sc n_Sc hown hK hP26 hD26 hS25 0 rfl rfl 6 (by decide) (hg _ k3_42) (fun _ h9 => h9) rfl hnm rfl (by decide +kernel) rfl rfl (Nat.le_of_ble_eq_true rfl) d_Sc_init_74 (fun H27 locs27 hP27 hD27 hS27 => ?_)
  clear hP26 hD26 hS25
  replace hP27 : va_P D vwCl ((h0, .inr (8, [.ref q5, .ref q16, .ref q27, .ref q38, .ref q49, .ref q60, .ref q72, .null, .null, .null, .null])) :: T72) _ := hP27
  replace hD27 : va_D A ((h0, .inr (8, [.ref q5, .ref q16, .ref q27, .ref q38, .ref q49, .ref q60, .ref q72, .null, .null, .null, .null])) :: T72) := hD27
  refine lv_aload_n hx hb d_Sc_init_77 rfl (lv_at hl 0 rfl) ?_
  refine va_new (ci := 9) (fs := [.null, .int 0]) (C := R_Na) (T := T_Na) (N := 2) hx hb hg i_Na t_Na o_Na hown (hg _ k2_233) (hg _ k2_234) (hg _ k1_10) hK hP27 hD27 hS27 hA rfl f_Na (Nat.le_of_ble_eq_true rfl) (Nat.le_of_ble_eq_true rfl) d_Sc_init_78 (fun q78 H28 hP28 hD28 hS28 => ?_)
  clear hP27 hD27 hS27
  refine lv_dup hx hb d_Sc_init_81 rfl ?_
  refine zInit hP28 hD28 hS28 hA (va_runIN (As := []) (rest := [.ref q78, .ref h0]) ⟨hx, hb, hml, hown, hg⟩ (c_Na_init l D tA q78 H28.size) ⟨va_cnB 0 hg (zGood k2_237 rfl) rfl rfl rfl (va_Nw.of rfl (hg _ k2_235)) (hg _ k1_10) (by decide +kernel) ⟨(Nat.le_of_ble_eq_true rfl), (Nat.le_of_ble_eq_true rfl)⟩, rfl, hg _ k2_236⟩ (zPreI hh hK hP28 hD28) rfl rfl hl.1 rfl (lv_room (Nat.le_of_ble_eq_true rfl)) d_Sc_init_82 ⟨(Nat.le_of_ble_eq_true rfl), (Nat.le_of_ble_eq_true rfl)⟩) (fun u78 H29 locs29 _ hP29 hD29 hS29 => ?_)
  clear hP28 hD28 hS28
  refine zCons (fun T82 e82 hP30 hD30 => ?_) hP29 hD29
  clear hP29 hD29
  refine va_putF (D := D) (ci := 8) (v := .ref q78) (ty := .object "ChanceArena$Natural") (C := R_Sc) (T := T_Sc) (N := 11) hx hb hg i_Sc t_Sc o_Sc n_Sc hown hK hP30 hD30 hS29 0 rfl rfl 7 (by decide) (hg _ k3_43) (fun _ h9 => h9) rfl hnm rfl (by decide +kernel) rfl rfl (Nat.le_of_ble_eq_true rfl) d_Sc_init_85 (fun H31 locs31 hP31 hD31 hS31 => ?_)
  clear hP30 hD30 hS29
  replace hP31 : va_P D vwCl ((h0, .inr (8, [.ref q5, .ref q16, .ref q27, .ref q38, .ref q49, .ref q60, .ref q72, .ref q78, .null, .null, .null])) :: T82) _ := hP31
  replace hD31 : va_D A ((h0, .inr (8, [.ref q5, .ref q16, .ref q27, .ref q38, .ref q49, .ref q60, .ref q72, .ref q78, .null, .null, .null])) :: T82) := hD31
  refine lv_aload_n hx hb d_Sc_init_88 rfl (lv_at hl 0 rfl) ?_
  refine va_new (ci := 9) (fs := [.null, .int 0]) (C := R_Na) (T := T_Na) (N := 2) hx hb hg i_Na t_Na o_Na hown (hg _ k2_233) (hg _ k2_234) (hg _ k1_10) hK hP31 hD31 hS31 hA rfl f_Na (Nat.le_of_ble_eq_true rfl) (Nat.le_of_ble_eq_true rfl) d_Sc_init_89 (fun q89 H32 hP32 hD32 hS32 => ?_)
  clear hP31 hD31 hS31
  refine lv_dup hx hb d_Sc_init_92 rfl ?_
  refine zInit hP32 hD32 hS32 hA (va_runIN (As := []) (rest := [.ref q89, .ref h0]) ⟨hx, hb, hml, hown, hg⟩ (c_Na_init l D tA q89 H32.size) ⟨va_cnB 0 hg (zGood k2_237 rfl) rfl rfl rfl (va_Nw.of rfl (hg _ k2_235)) (hg _ k1_10) (by decide +kernel) ⟨(Nat.le_of_ble_eq_true rfl), (Nat.le_of_ble_eq_true rfl)⟩, rfl, hg _ k2_236⟩ (zPreI hh hK hP32 hD32) rfl rfl hl.1 rfl (lv_room (Nat.le_of_ble_eq_true rfl)) d_Sc_init_93 ⟨(Nat.le_of_ble_eq_true rfl), (Nat.le_of_ble_eq_true rfl)⟩) (fun u89 H33 locs33 _ hP33 hD33 hS33 => ?_)
  clear hP32 hD32 hS32
  refine zCons (fun T93 e93 hP34 hD34 => ?_) hP33 hD33
  clear hP33 hD33
  refine va_putF (D := D) (ci := 8) (v := .ref q89) (ty := .object "ChanceArena$Natural") (C := R_Sc) (T := T_Sc) (N := 11) hx hb hg i_Sc t_Sc o_Sc n_Sc hown hK hP34 hD34 hS33 0 rfl rfl 8 (by decide) (hg _ k3_44) (fun _ h9 => h9) rfl hnm rfl (by decide +kernel) rfl rfl (Nat.le_of_ble_eq_true rfl) d_Sc_init_96 (fun H35 locs35 hP35 hD35 hS35 => ?_)
  clear hP34 hD34 hS33
  replace hP35 : va_P D vwCl ((h0, .inr (8, [.ref q5, .ref q16, .ref q27, .ref q38, .ref q49, .ref q60, .ref q72, .ref q78, .ref q89, .null, .null])) :: T93) _ := hP35
  replace hD35 : va_D A ((h0, .inr (8, [.ref q5, .ref q16, .ref q27, .ref q38, .ref q49, .ref q60, .ref q72, .ref q78, .ref q89, .null, .null])) :: T93) := hD35
  refine lv_aload_n hx hb d_Sc_init_99 rfl (lv_at hl 0 rfl) ?_
  refine va_new (ci := 10) (fs := [.null, .null, .int 0]) (C := R_Fr) (T := T_Fr) (N := 3) hx hb hg i_Fr t_Fr o_Fr hown (hg _ k3_10) (hg _ k3_11) (hg _ k1_11) hK hP35 hD35 hS35 hA rfl f_Fr (Nat.le_of_ble_eq_true rfl) (Nat.le_of_ble_eq_true rfl) d_Sc_init_100 (fun q100 H36 hP36 hD36 hS36 => ?_)
  clear hP35 hD35 hS35
  refine lv_dup hx hb d_Sc_init_103 rfl ?_
  refine zInit hP36 hD36 hS36 hA (va_runIN (As := []) (rest := [.ref q100, .ref h0]) ⟨hx, hb, hml, hown, hg⟩ (c_Fr_init l D tA q100 H36.size) ⟨va_cnB 0 hg (zGood k3_14 rfl) rfl rfl rfl (va_Nw.of rfl (hg _ k3_12)) (hg _ k1_11) (by decide +kernel) ⟨(Nat.le_of_ble_eq_true rfl), (Nat.le_of_ble_eq_true rfl)⟩, rfl, hg _ k3_13⟩ (zPreI hh hK hP36 hD36) rfl rfl hl.1 rfl (lv_room (Nat.le_of_ble_eq_true rfl)) d_Sc_init_104 ⟨(Nat.le_of_ble_eq_true rfl), (Nat.le_of_ble_eq_true rfl)⟩) (fun u100 H37 locs37 _ hP37 hD37 hS37 => ?_)
  clear hP36 hD36 hS36
  refine zCons (fun T104 e104 hP38 hD38 => ?_) hP37 hD37
  clear hP37 hD37
  refine va_put (D := D) (ci := 8) (v := .ref q100) (ty := .object "ChanceArena$Fraction") (C := R_Sc) (T := T_Sc) (N := 11) hx hb hg i_Sc t_Sc o_Sc n_Sc hown hK hP38 hD38 hS37 0 rfl rfl 9 (by decide) (hg _ k3_45) (fun _ h9 => h9) rfl (by decide +kernel) rfl rfl (Nat.le_of_ble_eq_true rfl) d_Sc_init_107 (fun H39 locs39 hP39 hD39 hS39 => ?_)
  clear hP38 hD38 hS37
  replace hP39 : va_P D vwCl ((h0, .inr (8, [.ref q5, .ref q16, .ref q27, .ref q38, .ref q49, .ref q60, .ref q72, .ref q78, .ref q89, .ref q100, .null])) :: T104) _ := hP39
  replace hD39 : va_D A ((h0, .inr (8, [.ref q5, .ref q16, .ref q27, .ref q38, .ref q49, .ref q60, .ref q72, .ref q78, .ref q89, .ref q100, .null])) :: T104) := hD39
  refine lv_aload_n hx hb d_Sc_init_110 rfl (lv_at hl 0 rfl) ?_
  refine va_new (ci := 10) (fs := [.null, .null, .int 0]) (C := R_Fr) (T := T_Fr) (N := 3) hx hb hg i_Fr t_Fr o_Fr hown (hg _ k3_10) (hg _ k3_11) (hg _ k1_11) hK hP39 hD39 hS39 hA rfl f_Fr (Nat.le_of_ble_eq_true rfl) (Nat.le_of_ble_eq_true rfl) d_Sc_init_111 (fun q111 H40 hP40 hD40 hS40 => ?_)
  clear hP39 hD39 hS39
  refine lv_dup hx hb d_Sc_init_114 rfl ?_
  refine zInit hP40 hD40 hS40 hA (va_runIN (As := []) (rest := [.ref q111, .ref h0]) ⟨hx, hb, hml, hown, hg⟩ (c_Fr_init l D tA q111 H40.size) ⟨va_cnB 0 hg (zGood k3_14 rfl) rfl rfl rfl (va_Nw.of rfl (hg _ k3_12)) (hg _ k1_11) (by decide +kernel) ⟨(Nat.le_of_ble_eq_true rfl), (Nat.le_of_ble_eq_true rfl)⟩, rfl, hg _ k3_13⟩ (zPreI hh hK hP40 hD40) rfl rfl hl.1 rfl (lv_room (Nat.le_of_ble_eq_true rfl)) d_Sc_init_115 ⟨(Nat.le_of_ble_eq_true rfl), (Nat.le_of_ble_eq_true rfl)⟩) (fun u111 H41 locs41 _ hP41 hD41 hS41 => ?_)
  clear hP40 hD40 hS40
  refine zCons (fun T115 e115 hP42 hD42 => ?_) hP41 hD41
  clear hP41 hD41
  refine va_put (D := D) (ci := 8) (v := .ref q111) (ty := .object "ChanceArena$Fraction") (C := R_Sc) (T := T_Sc) (N := 11) hx hb hg i_Sc t_Sc o_Sc n_Sc hown hK hP42 hD42 hS41 0 rfl rfl 10 (by decide) (hg _ k3_46) (fun _ h9 => h9) rfl (by decide +kernel) rfl rfl (Nat.le_of_ble_eq_true rfl) d_Sc_init_118 (fun H43 locs43 hP43 hD43 hS43 => ?_)
  clear hP42 hD42 hS41
  replace hP43 : va_P D vwCl ((h0, .inr (8, [.ref q5, .ref q16, .ref q27, .ref q38, .ref q49, .ref q60, .ref q72, .ref q78, .ref q89, .ref q100, .ref q111])) :: T115) _ := hP43
  replace hD43 : va_D A ((h0, .inr (8, [.ref q5, .ref q16, .ref q27, .ref q38, .ref q49, .ref q60, .ref q72, .ref q78, .ref q89, .ref q100, .ref q111])) :: T115) := hD43
  refine W.cs (cells' := 27) (slots' := 82) rfl rfl ?_
  exact zVret hx hb hr hlocks hP43 hD43 hS43 ((q5, u5), (q16, u16), (q27, u27), (q38, u38), (q49, u49), (q60, u60), q72, (q78, u78), (q89, u89), (q100, u100), (q111, u111)) trivial (by rw [e115, e104, e93, e82, e72, e64, e53, e42, e31, e20, e9]; rfl) d_Sc_init_121
