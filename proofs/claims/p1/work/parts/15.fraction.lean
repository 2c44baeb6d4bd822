theorem k1_20 : (Jvm.Cond.initialized "ChanceArenaModel$Whole") ∈ lw_R := zR (zk_1 _ (List.mem_of_getElem? (i := 20) (by decide +kernel))) rfl
theorem k9_161 : (Jvm.Cond.code ({ cls := "ChanceArenaModel$Fraction", name := "<init>", desc := "(I)V" } : Jvm.MethodName) prog_16_method_1_code (2 : Nat) (Option.none : Option Jvm.ClassFile.FieldType)) ∈ lw_R := zR (zk_9 _ (List.mem_of_getElem? (i := 161) (by decide +kernel))) rfl
theorem k9_162 : (Jvm.Cond.methodLink "ChanceArenaModel$Fraction" (1 : Nat) ({ cls := "java/lang/Object", name := "<init>", desc := "()V" } : Jvm.MethodName)) ∈ lw_R := zR (zk_9 _ (List.mem_of_getElem? (i := 162) (by decide +kernel))) rfl
theorem k9_163 : (Jvm.Cond.classLink "ChanceArenaModel$Fraction" (7 : Nat) "ChanceArenaModel$Whole") ∈ lw_R := zR (zk_9 _ (List.mem_of_getElem? (i := 163) (by decide +kernel))) rfl
theorem k9_164 : (Jvm.Cond.instantiable "ChanceArenaModel$Whole" (2 : Nat)) ∈ lw_R := zR (zk_9 _ (List.mem_of_getElem? (i := 164) (by decide +kernel))) rfl
theorem k9_165 : (Jvm.Cond.methodLink "ChanceArenaModel$Fraction" (9 : Nat) ({ cls := "ChanceArenaModel$Whole", name := "<init>", desc := "(I)V" } : Jvm.MethodName)) ∈ lw_R := zR (zk_9 _ (List.mem_of_getElem? (i := 165) (by decide +kernel))) rfl
theorem k9_166 : (Jvm.Cond.instanceMethod ({ cls := "ChanceArenaModel$Whole", name := "<init>", desc := "(I)V" } : Jvm.MethodName)) ∈ lw_R := zR (zk_9 _ (List.mem_of_getElem? (i := 166) (by decide +kernel))) rfl
theorem k9_176 : (Jvm.Cond.methodLink "ChanceArenaModel$Fraction" (21 : Nat) ({ cls := "ChanceArenaModel$Whole", name := "set", desc := "(J)V" } : Jvm.MethodName)) ∈ lw_R := zR (zk_9 _ (List.mem_of_getElem? (i := 176) (by decide +kernel))) rfl
theorem k9_177 : (Jvm.Cond.instanceMethod ({ cls := "ChanceArenaModel$Whole", name := "set", desc := "(J)V" } : Jvm.MethodName)) ∈ lw_R := zR (zk_9 _ (List.mem_of_getElem? (i := 177) (by decide +kernel))) rfl
theorem k9_178 : (Jvm.Cond.selects "ChanceArenaModel$Whole" ({ cls := "ChanceArenaModel$Whole", name := "set", desc := "(J)V" } : Jvm.MethodName) ({ cls := "ChanceArenaModel$Whole", name := "set", desc := "(J)V" } : Jvm.MethodName)) ∈ lw_R := zR (zk_9 _ (List.mem_of_getElem? (i := 178) (by decide +kernel))) rfl
theorem k9_181 : (Jvm.Cond.fieldLink "ChanceArenaModel$Fraction" (12 : Nat) "ChanceArenaModel$Fraction" "top" "LChanceArenaModel$Whole;") ∈ lw_R := zR (zk_9 _ (List.mem_of_getElem? (i := 181) (by decide +kernel))) rfl
theorem k9_184 : (Jvm.Cond.fieldLink "ChanceArenaModel$Fraction" (18 : Nat) "ChanceArenaModel$Fraction" "bottom" "LChanceArenaModel$Whole;") ∈ lw_R := zR (zk_9 _ (List.mem_of_getElem? (i := 184) (by decide +kernel))) rfl
theorem d_MF_init_0 : decode prog_16_method_1_code 0 = .ok (.aload_n 0, 1) := dc9_42 (by decide +kernel)
theorem d_MF_init_1 : decode prog_16_method_1_code 1 = .ok (.invokespecial 1, 3) := dc9_183 (by decide +kernel)
theorem d_MF_init_4 : decode prog_16_method_1_code 4 = .ok (.aload_n 0, 1) := dc9_42 (by decide +kernel)
theorem d_MF_init_5 : decode prog_16_method_1_code 5 = .ok (.new 7, 3) := dc9_187 (by decide +kernel)
theorem d_MF_init_8 : decode prog_16_method_1_code 8 = .ok (.dup, 1) := dc9_89 (by decide +kernel)
theorem d_MF_init_9 : decode prog_16_method_1_code 9 = .ok (.iload_n 1, 1) := dc9_27 (by decide +kernel)
theorem d_MF_init_10 : decode prog_16_method_1_code 10 = .ok (.invokespecial 9, 3) := dc9_183 (by decide +kernel)
theorem d_MF_init_13 : decode prog_16_method_1_code 13 = .ok (.putfield 12, 3) := dc9_181 (by decide +kernel)
theorem d_MF_init_16 : decode prog_16_method_1_code 16 = .ok (.aload_n 0, 1) := dc9_42 (by decide +kernel)
theorem d_MF_init_17 : decode prog_16_method_1_code 17 = .ok (.new 7, 3) := dc9_187 (by decide +kernel)
theorem d_MF_init_20 : decode prog_16_method_1_code 20 = .ok (.dup, 1) := dc9_89 (by decide +kernel)
theorem d_MF_init_21 : decode prog_16_method_1_code 21 = .ok (.iload_n 1, 1) := dc9_27 (by decide +kernel)
theorem d_MF_init_22 : decode prog_16_method_1_code 22 = .ok (.invokespecial 9, 3) := dc9_183 (by decide +kernel)
theorem d_MF_init_25 : decode prog_16_method_1_code 25 = .ok (.putfield 18, 3) := dc9_181 (by decide +kernel)
theorem d_MF_init_28 : decode prog_16_method_1_code 28 = .ok (.aload_n 0, 1) := dc9_42 (by decide +kernel)
theorem d_MF_init_29 : decode prog_16_method_1_code 29 = .ok (.getfield 18, 3) := dc9_180 (by decide +kernel)
theorem d_MF_init_32 : decode prog_16_method_1_code 32 = .ok (.lconst 1, 1) := dc9_10 (by decide +kernel)
theorem d_MF_init_33 : decode prog_16_method_1_code 33 = .ok (.invokevirtual 21, 3) := dc9_182 (by decide +kernel)
theorem d_MF_init_36 : decode prog_16_method_1_code 36 = .ok (.return_, 1) := dc9_177 (by decide +kernel)
theorem f_MF : ∀ j, j < 3 → defaultValue (t_MF j) = vp_V [.null, .null, .int 0] j := by decide +kernel
/-- a new fraction: 0 over 1 -/
def w_MF (tA : Nat → ClassId) (h0 N : Nat) (u : Nat × Nat × Nat × Nat) : va_W := match u with
  | (q5, u5, q17, u17) => (h0, .inr (18, [.ref q5, .ref q17, .int 0])) :: (w_MW tA q5 N u5 0 (fun _ => 0) ++ w_MW tA q17 N u17 1 (fun i => if i = 0 then 1 else 0))
theorem MWset_one {n : Nat} {g : Nat → Int32} (h : MWset 1 (fun _ => 0) n g) : n = 1 ∧ g = fun i => if i = 0 then 1 else 0 := by
  obtain ⟨h1, h2, h3, h4, h5⟩ := h
  have hn : n = 1 := by
    rcases n with _ | _ | n
    · simp at h1
    · rfl
    · exact absurd (by decide) (h2 1 (by omega))
  subst hn
  refine ⟨rfl, funext fun i => ?_⟩
  by_cases hi : i = 0
  · subst hi; rw [h4 0 (by omega)]; rfl
  · rw [h5 i (by omega), if_neg hi]
theorem zV {R : Room} {s : State} {args : Array Value} {own C : String} {index maxL mc ms : Nat} {y : MethodName} {bytes : ByteArray} {ret : Option FieldType} {rm : Room} (n : Nat) (hg : ∀ w ∈ lw_R, w.before args s = true) (h1 : Cond.methodLink own index y ∈ lw_R) (h2 : Cond.instanceMethod y ∈ lw_R) (h3 : Cond.selects C y y ∈ lw_R) (h4 : Cond.initialized C ∈ lw_R) (h5 : Cond.code y bytes maxL ret ∈ lw_R) (hrc : rm.cells = mc) (hrs : rm.slots = ms)
    (hd : y.cls = C ∧ y.cls ≠ "java/lang/invoke/MethodHandle" ∧ y.cls ≠ "java/lang/invoke/VarHandle" ∧ (parseMethodDescriptor y.desc).map (fun d => d.parameters.length) = some n) (hR : rm.frames + 1 ≤ R.frames ∧ 8 + (maxL + 11) + rm.locals ≤ R.locals) : CallW R s args own C index y bytes maxL ret (zW (Cond.code y bytes maxL ret)) rm mc ms n := by
  obtain ⟨hC, hd⟩ := hd
  subst hC
  exact ⟨callB_of n hg (zGood h5 rfl) rfl hrc hrs (hg _ h4) (hg _ h1) hd hR, hg _ h2, hg _ h3⟩
set_option maxHeartbeats 4000000 in
set_option maxRecDepth 100000 in
theorem c_MF_init (l : Launch) (D : va_G) (tA : Nat → ClassId) (h0 sz N : Nat) (hN3 : 3 ≤ N) (hN : N ≤ 1000) : zMv l ({ cls := "ChanceArenaModel$Fraction", name := "<init>", desc := "(I)V" } : Jvm.MethodName) (zW (Jvm.Cond.code ({ cls := "ChanceArenaModel$Fraction", name := "<init>", desc := "(I)V" } : Jvm.MethodName) prog_16_method_1_code (2 : Nat) (Option.none : Option Jvm.ClassFile.FieldType))) { frames := 2, cells := 4, slots := 2 * N + 4, locals := 40 } [.ref h0, .int (nI N)] D tA [(h0, .inr (18, [.null, .null, .int 0]))] sz (fun _ : Nat × Nat × Nat × Nat => True) (w_MF tA h0 N) 4 (2 * N + 4) := by
  refine zOpen (fun A => va_Qv _ (zPost D A (w_MF tA h0 N)) A) (lv := [(0, .ref h0), (1, .int (nI N))]) (by decide) rfl (Nat.le_of_ble_eq_true rfl) rfl ?_
  intro p e s m below meth c A ls hx hb hr hml hh hg hown hlocks hnm hK hA hP hD0 hAw hS hl
  have hD := zD hD0 hAw
  refine lv_aload_n hx hb d_MF_init_0 rfl (lv_at hl 0 rfl) ?_
  refine W.objInit hx hb hown (hg _ k9_162) (hg _ k1_46) (hg _ k1_47) rfl (by rw [hml]; exact hl.1) rfl d_MF_init_1 (Nat.le_of_ble_eq_true rfl) (Nat.le_of_ble_eq_true rfl) ?_
  refine lv_aload_n hx hb d_MF_init_4 rfl (lv_at hl 0 rfl) ?_
  refine va_new (ci := 19) (fs := [.null, .int 0]) (C := R_MW) (T := T_MW) (N := 2) hx hb hg i_MW t_MW o_MW hown (hg _ k9_163) (hg _ k9_164) (hg _ k1_20) hK hP hD hS hA rfl f_MW (Nat.le_of_ble_eq_true rfl) (by show _ ≤ 2 * N + 4; omega) d_MF_init_5 (fun q5 H1 hP1 hD1 hS1 => ?_)
  clear hP hD hS
  refine lv_dup hx hb d_MF_init_8 rfl ?_
  refine lv_iload_n hx hb d_MF_init_9 rfl (lv_at hl 1 rfl) ?_
  refine zInit hP1 hD1 hS1 hA (va_runI (As := [.int (nI N)]) (rest := [.ref q5, .ref h0]) ⟨hx, hb, hml, hown, hg⟩ (c_MW_init l D tA q5 H1.size N hN) (cwI 1 hg (zGood k9_167 rfl) rfl rfl rfl (hg _ k1_20) (hg _ k9_165) (hg _ k9_166) rfl (by decide +kernel) ⟨(Nat.le_of_ble_eq_true rfl), (Nat.le_of_ble_eq_true rfl)⟩) (zPreI hh hK hP1 hD1) rfl rfl hl.1 rfl (lv_room (Nat.le_of_ble_eq_true rfl)) d_MF_init_10 ⟨(Nat.le_of_ble_eq_true rfl), by show _ ≤ 2 * N + 4; omega⟩) (fun u5 H2 locs2 _ hP2 hD2 hS2 => ?_)
  clear hP1 hD1 hS1
  refine va_putF (D := D) (ci := 18) (v := .ref q5) (ty := .object "ChanceArenaModel$Whole") (C := R_MF) (T := T_MF) (N := 3) hx hb hg i_MF t_MF o_MF n_MF hown hK hP2 hD2 hS2 0 rfl rfl 0 (by decide) (hg _ k9_181) (fun _ h9 => h9) rfl hnm rfl (by decide +kernel) rfl rfl (Nat.le_of_ble_eq_true rfl) d_MF_init_13 (fun H3 locs3 hP3 hD3 hS3 => ?_)
  clear hP2 hD2 hS2
  refine lv_aload_n hx hb d_MF_init_16 rfl (lv_at hl 0 rfl) ?_
  refine va_new (ci := 19) (fs := [.null, .int 0]) (C := R_MW) (T := T_MW) (N := 2) hx hb hg i_MW t_MW o_MW hown (hg _ k9_163) (hg _ k9_164) (hg _ k1_20) hK hP3 hD3 hS3 hA rfl f_MW (Nat.le_of_ble_eq_true rfl) (by show _ ≤ 2 * N + 4; omega) d_MF_init_17 (fun q17 H4 hP4 hD4 hS4 => ?_)
  clear hP3 hD3 hS3
  refine lv_dup hx hb d_MF_init_20 rfl ?_
  refine lv_iload_n hx hb d_MF_init_21 rfl (lv_at hl 1 rfl) ?_
  refine zInit hP4 hD4 hS4 hA (va_runI (As := [.int (nI N)]) (rest := [.ref q17, .ref h0]) ⟨hx, hb, hml, hown, hg⟩ (c_MW_init l D tA q17 H4.size N hN) (cwI 1 hg (zGood k9_167 rfl) rfl rfl rfl (hg _ k1_20) (hg _ k9_165) (hg _ k9_166) rfl (by decide +kernel) ⟨(Nat.le_of_ble_eq_true rfl), (Nat.le_of_ble_eq_true rfl)⟩) (zPreI hh hK hP4 hD4) rfl rfl hl.1 rfl (lv_room (Nat.le_of_ble_eq_true rfl)) d_MF_init_22 ⟨(Nat.le_of_ble_eq_true rfl), by show _ ≤ 2 * N + 4; omega⟩) (fun u17 H5 locs5 _ hP5 hD5 hS5 => ?_)
  clear hP4 hD4 hS4
  refine va_putF (D := D) (ci := 18) (v := .ref q17) (ty := .object "ChanceArenaModel$Whole") (C := R_MF) (T := T_MF) (N := 3) hx hb hg i_MF t_MF o_MF n_MF hown hK hP5 hD5 hS5 0 rfl rfl 1 (by decide) (hg _ k9_184) (fun _ h9 => h9) rfl hnm rfl (by decide +kernel) rfl rfl (Nat.le_of_ble_eq_true rfl) d_MF_init_25 (fun H6 locs6 hP6 hD6 hS6 => ?_)
  clear hP5 hD5 hS5
  replace hP6 : va_P D vwCl [(h0, .inr (18, [.ref q5, .ref q17, .int 0])), (q5, .inr (19, [.ref u5, .int (nI 0)])), (u5, .inl (tA 0, N, .inl (fun _ => 0))), (q17, .inr (19, [.ref u17, .int (nI 0)])), (u17, .inl (tA 0, N, .inl (fun _ => 0)))] _ := hP6
  replace hD6 : va_D A [(h0, .inr (18, [.ref q5, .ref q17, .int 0])), (q5, .inr (19, [.ref u5, .int (nI 0)])), (u5, .inl (tA 0, N, .inl (fun _ => 0))), (q17, .inr (19, [.ref u17, .int (nI 0)])), (u17, .inl (tA 0, N, .inl (fun _ => 0)))] := hD6
  refine lv_aload_n hx hb d_MF_init_28 rfl (lv_at hl 0 rfl) ?_
  refine va_get (D := D) (ci := 18) (v := .ref q17) (C := R_MF) (T := T_MF) (N := 3) hx hb hg i_MF hown hK hP6 0 rfl rfl 1 (by decide) (hg _ k9_184) (fun _ h9 => h9) rfl d_MF_init_29 ?_
  refine lv_lconst (v := lN 1) hx hb d_MF_init_32 rfl ?_
  refine zCallv (wc := [(q17, .inr (19, [.ref u17, .int (nI 0)])), (u17, .inl (tA 0, N, .inl (fun _ => 0)))]) (wr := [(h0, .inr (18, [.ref q5, .ref q17, .int 0])), (q5, .inr (19, [.ref u5, .int (nI 0)])), (u5, .inl (tA 0, N, .inl (fun _ => 0)))]) hP6 hD6 hS6 hA [3, 4] [0, 1, 2] rfl rfl (by decide) (by decide) (va_runV (As := [.long (lN 1)]) (rest := []) ⟨hx, hb, hml, hown, hg⟩ (c_MW_set l D tA q17 u17 H6.size 1 N (by decide) hN3 hN (nI 0) (fun _ => 0)) (zV 1 hg k9_176 k9_177 k9_178 k1_20 k9_179 rfl rfl (by decide +kernel) ⟨(Nat.le_of_ble_eq_true rfl), (Nat.le_of_ble_eq_true rfl)⟩) (zPreV hh hK hP6 hD6 [3, 4] (by decide) rfl (ci := 19) rfl 0 rfl) rfl rfl hl.1 rfl (lv_room (Nat.le_of_ble_eq_true rfl)) d_MF_init_33 ⟨(Nat.le_of_ble_eq_true rfl), by show _ ≤ 2 * N + 4; omega⟩) (fun u H7 locs7 hw hP7 hD7 hS7 => ?_)
  clear hP6 hD6 hS6
  obtain ⟨n1, g1⟩ := u
  obtain ⟨rfl, rfl⟩ := MWset_one hw
  refine W.cs (cells' := 4) (slots' := 2 * N + 4) rfl (by omega) ?_
  exact zVret hx hb hr hlocks hP7 hD7 hS7 (q5, u5, q17, u17) trivial rfl d_MF_init_36
