theorem k1_10 : (Jvm.Cond.initialized "ChanceArena$Natural") ∈ lw_R := zR (zk_1 _ (List.mem_of_getElem? (i := 10) (by decide +kernel))) rfl
theorem k1_46 : (Jvm.Cond.instanceMethod ({ cls := "java/lang/Object", name := "<init>", desc := "()V" } : Jvm.MethodName)) ∈ lw_R := zR (zk_1 _ (List.mem_of_getElem? (i := 46) (by decide +kernel))) rfl
theorem k1_47 : (Jvm.Cond.code ({ cls := "java/lang/Object", name := "<init>", desc := "()V" } : Jvm.MethodName) object_method_1_code (1 : Nat) (Option.none : Option Jvm.ClassFile.FieldType)) ∈ lw_R := zR (zk_1 _ (List.mem_of_getElem? (i := 47) (by decide +kernel))) rfl
theorem k1_82 : (Jvm.Cond.arrayClass Jvm.ClassFile.FieldType.int) ∈ lw_R := zR (zk_1 _ (List.mem_of_getElem? (i := 82) (by decide +kernel))) rfl
theorem k2_234 : (Jvm.Cond.instantiable "ChanceArena$Natural" (2 : Nat)) ∈ lw_R := zR (zk_2 _ (List.mem_of_getElem? (i := 234) (by decide +kernel))) rfl
theorem k2_236 : (Jvm.Cond.instanceMethod ({ cls := "ChanceArena$Natural", name := "<init>", desc := "()V" } : Jvm.MethodName)) ∈ lw_R := zR (zk_2 _ (List.mem_of_getElem? (i := 236) (by decide +kernel))) rfl
theorem k2_237 : (Jvm.Cond.code ({ cls := "ChanceArena$Natural", name := "<init>", desc := "()V" } : Jvm.MethodName) prog_6_method_1_code (1 : Nat) (Option.none : Option Jvm.ClassFile.FieldType)) ∈ lw_R := zR (zk_2 _ (List.mem_of_getElem? (i := 237) (by decide +kernel))) rfl
theorem k2_238 : (Jvm.Cond.methodLink "ChanceArena$Natural" (3 : Nat) ({ cls := "java/lang/Object", name := "<init>", desc := "()V" } : Jvm.MethodName)) ∈ lw_R := zR (zk_2 _ (List.mem_of_getElem? (i := 238) (by decide +kernel))) rfl
theorem k2_239 : (Jvm.Cond.fieldLink "ChanceArena$Natural" (9 : Nat) "ChanceArena$Natural" "limbs" "[I") ∈ lw_R := zR (zk_2 _ (List.mem_of_getElem? (i := 239) (by decide +kernel))) rfl
theorem k3_1 : (Jvm.Cond.fieldLink "ChanceArena$Natural" (13 : Nat) "ChanceArena$Natural" "size" "I") ∈ lw_R := zR (zk_3 _ (List.mem_of_getElem? (i := 1) (by decide +kernel))) rfl
theorem k3_14 : (Jvm.Cond.code ({ cls := "ChanceArena$Fraction", name := "<init>", desc := "()V" } : Jvm.MethodName) prog_2_method_1_code (1 : Nat) (Option.none : Option Jvm.ClassFile.FieldType)) ∈ lw_R := zR (zk_3 _ (List.mem_of_getElem? (i := 14) (by decide +kernel))) rfl
theorem k3_15 : (Jvm.Cond.methodLink "ChanceArena$Fraction" (1 : Nat) ({ cls := "java/lang/Object", name := "<init>", desc := "()V" } : Jvm.MethodName)) ∈ lw_R := zR (zk_3 _ (List.mem_of_getElem? (i := 15) (by decide +kernel))) rfl
theorem k3_16 : (Jvm.Cond.classLink "ChanceArena$Fraction" (7 : Nat) "ChanceArena$Natural") ∈ lw_R := zR (zk_3 _ (List.mem_of_getElem? (i := 16) (by decide +kernel))) rfl
theorem k3_17 : (Jvm.Cond.methodLinkNest "ChanceArena$Fraction" (9 : Nat) ({ cls := "ChanceArena$Natural", name := "<init>", desc := "()V" } : Jvm.MethodName) "ChanceArena") ∈ lw_R := zR (zk_3 _ (List.mem_of_getElem? (i := 17) (by decide +kernel))) rfl
theorem k3_18 : (Jvm.Cond.fieldLink "ChanceArena$Fraction" (10 : Nat) "ChanceArena$Fraction" "above" "LChanceArena$Natural;") ∈ lw_R := zR (zk_3 _ (List.mem_of_getElem? (i := 18) (by decide +kernel))) rfl
theorem k3_22 : (Jvm.Cond.fieldLink "ChanceArena$Fraction" (16 : Nat) "ChanceArena$Fraction" "below" "LChanceArena$Natural;") ∈ lw_R := zR (zk_3 _ (List.mem_of_getElem? (i := 22) (by decide +kernel))) rfl
theorem k3_26 : (Jvm.Cond.fieldLink "ChanceArena$Fraction" (19 : Nat) "ChanceArena$Fraction" "times" "I") ∈ lw_R := zR (zk_3 _ (List.mem_of_getElem? (i := 26) (by decide +kernel))) rfl
theorem d_Na_init_0 : decode prog_6_method_1_code 0 = .ok (.aload_n 0, 1) := by decide +kernel
theorem d_Na_init_1 : decode prog_6_method_1_code 1 = .ok (.invokespecial 3, 3) := by decide +kernel
theorem d_Na_init_4 : decode prog_6_method_1_code 4 = .ok (.aload_n 0, 1) := by decide +kernel
theorem d_Na_init_5 : decode prog_6_method_1_code 5 = .ok (.iconst 4, 1) := by decide +kernel
theorem d_Na_init_6 : decode prog_6_method_1_code 6 = .ok (.newarray .int, 2) := by decide +kernel
theorem d_Na_init_8 : decode prog_6_method_1_code 8 = .ok (.putfield 9, 3) := by decide +kernel
theorem d_Na_init_11 : decode prog_6_method_1_code 11 = .ok (.aload_n 0, 1) := by decide +kernel
theorem d_Na_init_12 : decode prog_6_method_1_code 12 = .ok (.iconst 0, 1) := by decide +kernel
theorem d_Na_init_13 : decode prog_6_method_1_code 13 = .ok (.putfield 13, 3) := by decide +kernel
theorem d_Na_init_16 : decode prog_6_method_1_code 16 = .ok (.return_, 1) := by decide +kernel
theorem d_Fr_init_0 : decode prog_2_method_1_code 0 = .ok (.aload_n 0, 1) := by decide +kernel
theorem d_Fr_init_1 : decode prog_2_method_1_code 1 = .ok (.invokespecial 1, 3) := by decide +kernel
theorem d_Fr_init_4 : decode prog_2_method_1_code 4 = .ok (.aload_n 0, 1) := by decide +kernel
theorem d_Fr_init_5 : decode prog_2_method_1_code 5 = .ok (.new 7, 3) := by decide +kernel
theorem d_Fr_init_8 : decode prog_2_method_1_code 8 = .ok (.dup, 1) := by decide +kernel
theorem d_Fr_init_9 : decode prog_2_method_1_code 9 = .ok (.invokespecial 9, 3) := by decide +kernel
theorem d_Fr_init_12 : decode prog_2_method_1_code 12 = .ok (.putfield 10, 3) := by decide +kernel
theorem d_Fr_init_15 : decode prog_2_method_1_code 15 = .ok (.aload_n 0, 1) := by decide +kernel
theorem d_Fr_init_16 : decode prog_2_method_1_code 16 = .ok (.new 7, 3) := by decide +kernel
theorem d_Fr_init_19 : decode prog_2_method_1_code 19 = .ok (.dup, 1) := by decide +kernel
theorem d_Fr_init_20 : decode prog_2_method_1_code 20 = .ok (.invokespecial 9, 3) := by decide +kernel
theorem d_Fr_init_23 : decode prog_2_method_1_code 23 = .ok (.putfield 16, 3) := by decide +kernel
theorem d_Fr_init_26 : decode prog_2_method_1_code 26 = .ok (.aload_n 0, 1) := by decide +kernel
theorem d_Fr_init_27 : decode prog_2_method_1_code 27 = .ok (.iconst 1, 1) := by decide +kernel
theorem d_Fr_init_28 : decode prog_2_method_1_code 28 = .ok (.putfield 19, 3) := by decide +kernel
theorem d_Fr_init_31 : decode prog_2_method_1_code 31 = .ok (.return_, 1) := by decide +kernel
abbrev S_Na : Type := Nat
def w_Na (tA : Nat → ClassId) (h0 : Nat) (u : S_Na) : va_W := match u with
  | q6 => (h0, .inr (9, [.ref q6, .int 0])) :: ([(q6, .inl (tA 0, 4, .inl (fun _ => 0)))])
theorem f_Na : ∀ j, j < 2 → defaultValue (t_Na j) = vp_V [.null, .int 0] j := by decide +kernel
set_option maxHeartbeats 4000000 in
set_option maxRecDepth 100000 in
theorem c_Na_init (l : Launch) (D : va_G) (tA : Nat → ClassId) (h0 sz : Nat) : zMv l ({ cls := "ChanceArena$Natural", name := "<init>", desc := "()V" } : Jvm.MethodName) (zW (Jvm.Cond.code ({ cls := "ChanceArena$Natural", name := "<init>", desc := "()V" } : Jvm.MethodName) prog_6_method_1_code (1 : Nat) (Option.none : Option Jvm.ClassFile.FieldType))) { frames := 1, cells := 1, slots := 4, locals := 12 } [.ref h0] D tA [(h0, .inr (9, [.null, .int 0]))] sz (fun _ : S_Na => True) (w_Na tA h0) 1 4 := by
  refine zOpen (fun A => va_Qv _ (zPost D A (w_Na tA h0)) A) (lv := [(0, .ref h0)]) (by decide) rfl (Nat.le_of_ble_eq_true rfl) rfl ?_
  intro p e s m below meth c A ls hx hb hr hml hh hg hown hlocks hnm hK hA hP hD0 hAw hS hl
  have hD := zD hD0 hAw
  refine lv_aload_n hx hb d_Na_init_0 rfl (lv_at hl 0 rfl) ?_
  refine W.objInit hx hb hown (hg _ k2_238) (hg _ k1_46) (hg _ k1_47) rfl (by rw [hml]; exact hl.1) rfl d_Na_init_1 (Nat.le_of_ble_eq_true rfl) (Nat.le_of_ble_eq_true rfl) ?_
  refine lv_aload_n hx hb d_Na_init_4 rfl (lv_at hl 0 rfl) ?_
  refine lv_iconst (v := 4) hx hb d_Na_init_5 (by decide) ?_
  refine zNewa (atype := .int) (ty := .int) (a0 := (4, .inl (fun _ => 0))) (N' := 4) hx hb rfl (hg _ k1_82) hK hP hD hS hA 0 rfl (fun _ h => by cases h) (fun _ => rfl) (by decide) (by decide) (by decide) (Nat.le_of_ble_eq_true rfl) (Nat.le_of_ble_eq_true rfl) d_Na_init_6 (fun q6 H hP hD hS => ?_)
  have hP : va_P D vwCl ((h0, .inr (9, [.null, .int 0])) :: ([(q6, .inl (tA 0, 4, .inl (fun _ => 0)))])) H := hP
  have hD : va_D A ((h0, .inr (9, [.null, .int 0])) :: ([(q6, .inl (tA 0, 4, .inl (fun _ => 0)))])) := hD
  refine va_put (D := D) (ci := 9) (v := .ref q6) (ty := .array .int) (C := R_Na) (T := T_Na) (N := 2) hx hb hg i_Na t_Na o_Na n_Na hown hK hP hD hS 0 rfl rfl 0 (by decide) (hg _ k2_239) (fun _ h9 => h9) rfl (by decide +kernel) rfl rfl (Nat.le_of_ble_eq_true rfl) d_Na_init_8 (fun H locs hP hD hS => ?_)
  have hP : va_P D vwCl ((h0, .inr (9, [.ref q6, .int 0])) :: ([(q6, .inl (tA 0, 4, .inl (fun _ => 0)))])) H := hP
  have hD : va_D A ((h0, .inr (9, [.ref q6, .int 0])) :: ([(q6, .inl (tA 0, 4, .inl (fun _ => 0)))])) := hD
  refine lv_aload_n hx hb d_Na_init_11 rfl (lv_at hl 0 rfl) ?_
  refine lv_iconst (v := 0) hx hb d_Na_init_12 (by decide) ?_
  refine va_put (D := D) (ci := 9) (v := .int 0) (ty := .int) (C := R_Na) (T := T_Na) (N := 2) hx hb hg i_Na t_Na o_Na n_Na hown hK hP hD hS 0 rfl rfl 1 (by decide) (hg _ k3_1) (fun _ h9 => h9) rfl (by decide +kernel) rfl rfl (Nat.le_of_ble_eq_true rfl) d_Na_init_13 (fun H locs hP hD hS => ?_)
  have hP : va_P D vwCl ((h0, .inr (9, [.ref q6, .int 0])) :: ([(q6, .inl (tA 0, 4, .inl (fun _ => 0)))])) H := hP
  have hD : va_D A ((h0, .inr (9, [.ref q6, .int 0])) :: ([(q6, .inl (tA 0, 4, .inl (fun _ => 0)))])) := hD
  refine W.cs (cells' := 1) (slots' := 4) rfl rfl ?_
  exact zVret hx hb hr hlocks hP hD hS (q6) trivial rfl d_Na_init_16
abbrev S_Fr : Type := (Nat × S_Na) × (Nat × S_Na)
def w_Fr (tA : Nat → ClassId) (h0 : Nat) (u : S_Fr) : va_W := match u with
  | ((q5, u5), (q16, u16)) => (h0, .inr (10, [.ref q5, .ref q16, .int 1])) :: (w_Na tA q5 u5 ++ w_Na tA q16 u16)
theorem f_Fr : ∀ j, j < 3 → defaultValue (t_Fr j) = vp_V [.null, .null, .int 0] j := by decide +kernel
set_option maxHeartbeats 4000000 in
set_option maxRecDepth 100000 in
theorem c_Fr_init (l : Launch) (D : va_G) (tA : Nat → ClassId) (h0 sz : Nat) : zMv l ({ cls := "ChanceArena$Fraction", name := "<init>", desc := "()V" } : Jvm.MethodName) (zW (Jvm.Cond.code ({ cls := "ChanceArena$Fraction", name := "<init>", desc := "()V" } : Jvm.MethodName) prog_2_method_1_code (1 : Nat) (Option.none : Option Jvm.ClassFile.FieldType))) { frames := 2, cells := 4, slots := 12, locals := 32 } [.ref h0] D tA [(h0, .inr (10, [.null, .null, .int 0]))] sz (fun _ : S_Fr => True) (w_Fr tA h0) 4 12 := by
  refine zOpen (fun A => va_Qv _ (zPost D A (w_Fr tA h0)) A) (lv := [(0, .ref h0)]) (by decide) rfl (Nat.le_of_ble_eq_true rfl) rfl ?_
  intro p e s m below meth c A ls hx hb hr hml hh hg hown hlocks hnm hK hA hP hD0 hAw hS hl
  have hD := zD hD0 hAw
  refine lv_aload_n hx hb d_Fr_init_0 rfl (lv_at hl 0 rfl) ?_
  refine W.objInit hx hb hown (hg _ k3_15) (hg _ k1_46) (hg _ k1_47) rfl (by rw [hml]; exact hl.1) rfl d_Fr_init_1 (Nat.le_of_ble_eq_true rfl) (Nat.le_of_ble_eq_true rfl) ?_
  refine lv_aload_n hx hb d_Fr_init_4 rfl (lv_at hl 0 rfl) ?_
  refine va_new (ci := 9) (fs := [.null, .int 0]) (C := R_Na) (T := T_Na) (N := 2) hx hb hg i_Na t_Na o_Na hown (hg _ k3_16) (hg _ k2_234) (hg _ k1_10) hK hP hD hS hA rfl f_Na (Nat.le_of_ble_eq_true rfl) (Nat.le_of_ble_eq_true rfl) d_Fr_init_5 (fun q5 H hP hD hS => ?_)
  refine lv_dup hx hb d_Fr_init_8 rfl ?_
  refine zInit hP hD hS hA (va_runIN (As := []) (rest := [.ref q5, .ref h0]) ⟨hx, hb, hml, hown, hg⟩ (c_Na_init l D tA q5 H.size) ⟨va_cnB 0 hg (zGood k2_237 rfl) rfl rfl rfl (va_Nw.of rfl (hg _ k3_17)) (hg _ k1_10) (by decide +kernel) ⟨(Nat.le_of_ble_eq_true rfl), (Nat.le_of_ble_eq_true rfl)⟩, rfl, hg _ k2_236⟩ (zPreI hh hK hP hD) rfl rfl hl.1 rfl (lv_room (Nat.le_of_ble_eq_true rfl)) d_Fr_init_9 ⟨(Nat.le_of_ble_eq_true rfl), (Nat.le_of_ble_eq_true rfl)⟩) (fun u5 H locs _ hP hD hS => ?_)
  have hP : va_P D vwCl ((h0, .inr (10, [.null, .null, .int 0])) :: (w_Na tA q5 u5)) H := hP
  have hD : va_D A ((h0, .inr (10, [.null, .null, .int 0])) :: (w_Na tA q5 u5)) := hD
  refine va_putF (D := D) (ci := 10) (v := .ref q5) (ty := .object "ChanceArena$Natural") (C := R_Fr) (T := T_Fr) (N := 3) hx hb hg i_Fr t_Fr o_Fr n_Fr hown hK hP hD hS 0 rfl rfl 0 (by decide) (hg _ k3_18) (fun _ h9 => h9) rfl hnm rfl (by decide +kernel) rfl rfl (Nat.le_of_ble_eq_true rfl) d_Fr_init_12 (fun H locs hP hD hS => ?_)
  have hP : va_P D vwCl ((h0, .inr (10, [.ref q5, .null, .int 0])) :: (w_Na tA q5 u5)) H := hP
  have hD : va_D A ((h0, .inr (10, [.ref q5, .null, .int 0])) :: (w_Na tA q5 u5)) := hD
  refine lv_aload_n hx hb d_Fr_init_15 rfl (lv_at hl 0 rfl) ?_
  refine va_new (ci := 9) (fs := [.null, .int 0]) (C := R_Na) (T := T_Na) (N := 2) hx hb hg i_Na t_Na o_Na hown (hg _ k3_16) (hg _ k2_234) (hg _ k1_10) hK hP hD hS hA rfl f_Na (Nat.le_of_ble_eq_true rfl) (Nat.le_of_ble_eq_true rfl) d_Fr_init_16 (fun q16 H hP hD hS => ?_)
  refine lv_dup hx hb d_Fr_init_19 rfl ?_
  refine zInit hP hD hS hA (va_runIN (As := []) (rest := [.ref q16, .ref h0]) ⟨hx, hb, hml, hown, hg⟩ (c_Na_init l D tA q16 H.size) ⟨va_cnB 0 hg (zGood k2_237 rfl) rfl rfl rfl (va_Nw.of rfl (hg _ k3_17)) (hg _ k1_10) (by decide +kernel) ⟨(Nat.le_of_ble_eq_true rfl), (Nat.le_of_ble_eq_true rfl)⟩, rfl, hg _ k2_236⟩ (zPreI hh hK hP hD) rfl rfl hl.1 rfl (lv_room (Nat.le_of_ble_eq_true rfl)) d_Fr_init_20 ⟨(Nat.le_of_ble_eq_true rfl), (Nat.le_of_ble_eq_true rfl)⟩) (fun u16 H locs _ hP hD hS => ?_)
  have hP : va_P D vwCl ((h0, .inr (10, [.ref q5, .null, .int 0])) :: (w_Na tA q5 u5 ++ w_Na tA q16 u16)) H := hP
  have hD : va_D A ((h0, .inr (10, [.ref q5, .null, .int 0])) :: (w_Na tA q5 u5 ++ w_Na tA q16 u16)) := hD
  refine va_putF (D := D) (ci := 10) (v := .ref q16) (ty := .object "ChanceArena$Natural") (C := R_Fr) (T := T_Fr) (N := 3) hx hb hg i_Fr t_Fr o_Fr n_Fr hown hK hP hD hS 0 rfl rfl 1 (by decide) (hg _ k3_22) (fun _ h9 => h9) rfl hnm rfl (by decide +kernel) rfl rfl (Nat.le_of_ble_eq_true rfl) d_Fr_init_23 (fun H locs hP hD hS => ?_)
  have hP : va_P D vwCl ((h0, .inr (10, [.ref q5, .ref q16, .int 0])) :: (w_Na tA q5 u5 ++ w_Na tA q16 u16)) H := hP
  have hD : va_D A ((h0, .inr (10, [.ref q5, .ref q16, .int 0])) :: (w_Na tA q5 u5 ++ w_Na tA q16 u16)) := hD
  refine lv_aload_n hx hb d_Fr_init_26 rfl (lv_at hl 0 rfl) ?_
  refine lv_iconst (v := 1) hx hb d_Fr_init_27 (by decide) ?_
  refine va_put (D := D) (ci := 10) (v := .int 1) (ty := .int) (C := R_Fr) (T := T_Fr) (N := 3) hx hb hg i_Fr t_Fr o_Fr n_Fr hown hK hP hD hS 0 rfl rfl 2 (by decide) (hg _ k3_26) (fun _ h9 => h9) rfl (by decide +kernel) rfl rfl (Nat.le_of_ble_eq_true rfl) d_Fr_init_28 (fun H locs hP hD hS => ?_)
  have hP : va_P D vwCl ((h0, .inr (10, [.ref q5, .ref q16, .int 1])) :: (w_Na tA q5 u5 ++ w_Na tA q16 u16)) H := hP
  have hD : va_D A ((h0, .inr (10, [.ref q5, .ref q16, .int 1])) :: (w_Na tA q5 u5 ++ w_Na tA q16 u16)) := hD
  refine W.cs (cells' := 4) (slots' := 12) rfl rfl ?_
  exact zVret hx hb hr hlocks hP hD hS ((q5, u5), (q16, u16)) trivial rfl d_Fr_init_31
