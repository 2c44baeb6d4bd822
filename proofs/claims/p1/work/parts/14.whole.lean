theorem k9_167 : (Jvm.Cond.code ({ cls := "ChanceArenaModel$Whole", name := "<init>", desc := "(I)V" } : Jvm.MethodName) prog_21_method_1_code (2 : Nat) (Option.none : Option Jvm.ClassFile.FieldType)) ∈ lw_R := zR (zk_9 _ (List.mem_of_getElem? (i := 167) (by decide +kernel))) rfl
theorem k9_168 : (Jvm.Cond.methodLink "ChanceArenaModel$Whole" (1 : Nat) ({ cls := "java/lang/Object", name := "<init>", desc := "()V" } : Jvm.MethodName)) ∈ lw_R := zR (zk_9 _ (List.mem_of_getElem? (i := 168) (by decide +kernel))) rfl
theorem k9_169 : (Jvm.Cond.fieldLink "ChanceArenaModel$Whole" (7 : Nat) "ChanceArenaModel$Whole" "parts" "[I") ∈ lw_R := zR (zk_9 _ (List.mem_of_getElem? (i := 169) (by decide +kernel))) rfl
theorem k9_170 : (Jvm.Cond.fieldLink "ChanceArenaModel$Whole" (13 : Nat) "ChanceArenaModel$Whole" "n" "I") ∈ lw_R := zR (zk_9 _ (List.mem_of_getElem? (i := 170) (by decide +kernel))) rfl
theorem k9_179 : (Jvm.Cond.code ({ cls := "ChanceArenaModel$Whole", name := "set", desc := "(J)V" } : Jvm.MethodName) prog_21_method_2_code (5 : Nat) (Option.none : Option Jvm.ClassFile.FieldType)) ∈ lw_R := zR (zk_9 _ (List.mem_of_getElem? (i := 179) (by decide +kernel))) rfl
theorem k9_180 : (Jvm.Cond.constantLong "ChanceArenaModel$Whole" (17 : Nat) (16777215 : Int64)) ∈ lw_R := zR (zk_9 _ (List.mem_of_getElem? (i := 180) (by decide +kernel))) rfl
theorem d_MW_init_0 : decode prog_21_method_1_code 0 = .ok (.aload_n 0, 1) := dc9_42 (by decide +kernel)
theorem d_MW_init_1 : decode prog_21_method_1_code 1 = .ok (.invokespecial 1, 3) := dc9_183 (by decide +kernel)
theorem d_MW_init_4 : decode prog_21_method_1_code 4 = .ok (.aload_n 0, 1) := dc9_42 (by decide +kernel)
theorem d_MW_init_5 : decode prog_21_method_1_code 5 = .ok (.iload_n 1, 1) := dc9_27 (by decide +kernel)
theorem d_MW_init_6 : decode prog_21_method_1_code 6 = .ok (.newarray .int, 2) := by decide +kernel
theorem d_MW_init_8 : decode prog_21_method_1_code 8 = .ok (.putfield 7, 3) := dc9_181 (by decide +kernel)
theorem d_MW_init_11 : decode prog_21_method_1_code 11 = .ok (.return_, 1) := dc9_177 (by decide +kernel)
theorem d_MW_set_7 : decode prog_21_method_2_code 7 = .ok (.lload_n 3, 1) := dc9_33 (by decide +kernel)
theorem d_MW_set_8 : decode prog_21_method_2_code 8 = .ok (.lconst 0, 1) := dc9_9 (by decide +kernel)
theorem d_MW_set_9 : decode prog_21_method_2_code 9 = .ok (.lcmp, 1) := dc9_148 (by decide +kernel)
theorem d_MW_set_10 : decode prog_21_method_2_code 10 = .ok (.ifCond .le 36, 3) := dc9_158 (by decide +kernel)
theorem d_MW_set_46 : decode prog_21_method_2_code 46 = .ok (.return_, 1) := dc9_177 (by decide +kernel)
theorem d_MW_set_13 : decode prog_21_method_2_code 13 = .ok (.aload_n 0, 1) := dc9_42 (by decide +kernel)
theorem d_MW_set_14 : decode prog_21_method_2_code 14 = .ok (.getfield 7, 3) := dc9_180 (by decide +kernel)
theorem d_MW_set_17 : decode prog_21_method_2_code 17 = .ok (.aload_n 0, 1) := dc9_42 (by decide +kernel)
theorem d_MW_set_18 : decode prog_21_method_2_code 18 = .ok (.getfield 13, 3) := dc9_180 (by decide +kernel)
theorem d_MW_set_21 : decode prog_21_method_2_code 21 = .ok (.lload_n 3, 1) := dc9_33 (by decide +kernel)
theorem d_MW_set_22 : decode prog_21_method_2_code 22 = .ok (.ldc2_w 17, 3) := dc9_20 (by decide +kernel)
theorem d_MW_set_25 : decode prog_21_method_2_code 25 = .ok (.land, 1) := dc9_127 (by decide +kernel)
theorem d_MW_set_26 : decode prog_21_method_2_code 26 = .ok (.l2i, 1) := dc9_136 (by decide +kernel)
theorem d_MW_set_27 : decode prog_21_method_2_code 27 = .ok (.iastore, 1) := dc9_79 (by decide +kernel)
theorem d_MW_set_28 : decode prog_21_method_2_code 28 = .ok (.aload_n 0, 1) := dc9_42 (by decide +kernel)
theorem d_MW_set_29 : decode prog_21_method_2_code 29 = .ok (.dup, 1) := dc9_89 (by decide +kernel)
theorem d_MW_set_30 : decode prog_21_method_2_code 30 = .ok (.getfield 13, 3) := dc9_180 (by decide +kernel)
theorem d_MW_set_33 : decode prog_21_method_2_code 33 = .ok (.iconst 1, 1) := dc9_4 (by decide +kernel)
theorem d_MW_set_34 : decode prog_21_method_2_code 34 = .ok (.iadd, 1) := dc9_96 (by decide +kernel)
theorem d_MW_set_35 : decode prog_21_method_2_code 35 = .ok (.putfield 13, 3) := dc9_181 (by decide +kernel)
theorem d_MW_set_38 : decode prog_21_method_2_code 38 = .ok (.lload_n 3, 1) := dc9_33 (by decide +kernel)
theorem d_MW_set_39 : decode prog_21_method_2_code 39 = .ok (.bipush 24, 2) := dc9_16 (by decide +kernel)
theorem d_MW_set_41 : decode prog_21_method_2_code 41 = .ok (.lshr, 1) := dc9_123 (by decide +kernel)
theorem d_MW_set_42 : decode prog_21_method_2_code 42 = .ok (.lstore_n 3, 1) := dc9_66 (by decide +kernel)
theorem d_MW_set_43 : decode prog_21_method_2_code 43 = .ok (.goto (-36), 3) := dc9_167 (by decide +kernel)
theorem d_MW_set_0 : decode prog_21_method_2_code 0 = .ok (.aload_n 0, 1) := dc9_42 (by decide +kernel)
theorem d_MW_set_1 : decode prog_21_method_2_code 1 = .ok (.iconst 0, 1) := dc9_3 (by decide +kernel)
theorem d_MW_set_2 : decode prog_21_method_2_code 2 = .ok (.putfield 13, 3) := dc9_181 (by decide +kernel)
theorem d_MW_set_5 : decode prog_21_method_2_code 5 = .ok (.lload_n 1, 1) := dc9_31 (by decide +kernel)
theorem d_MW_set_6 : decode prog_21_method_2_code 6 = .ok (.lstore_n 3, 1) := dc9_66 (by decide +kernel)
theorem f_MW : ∀ j, j < 2 → defaultValue (t_MW j) = vp_V [.null, .int 0] j := by decide +kernel
def w_MW (tA : Nat → ClassId) (h0 N q : Nat) (v : Nat) (f : Nat → Int32) : va_W := [(h0, .inr (19, [.ref q, .int (nI v)])), (q, .inl (tA 0, N, .inl f))]
set_option maxHeartbeats 4000000 in
set_option maxRecDepth 100000 in
/-- Whole(N): zero, in N parts -/
theorem c_MW_init (l : Launch) (D : va_G) (tA : Nat → ClassId) (h0 sz N : Nat) (hN : N ≤ 1000) : zMv l ({ cls := "ChanceArenaModel$Whole", name := "<init>", desc := "(I)V" } : Jvm.MethodName) (zW (Jvm.Cond.code ({ cls := "ChanceArenaModel$Whole", name := "<init>", desc := "(I)V" } : Jvm.MethodName) prog_21_method_1_code (2 : Nat) (Option.none : Option Jvm.ClassFile.FieldType))) { frames := 1, cells := 1, slots := N, locals := 12 } [.ref h0, .int (nI N)] D tA [(h0, .inr (19, [.null, .int 0]))] sz (fun _ : Nat => True) (fun q => w_MW tA h0 N q 0 (fun _ => 0)) 1 N := by
  refine zOpen (fun A => va_Qv _ (zPost D A (fun q => w_MW tA h0 N q 0 (fun _ => 0))) A) (lv := [(0, .ref h0), (1, .int (nI N))]) (by decide) rfl (Nat.le_of_ble_eq_true rfl) rfl ?_
  intro p e s m below meth c A ls hx hb hr hml hh hg hown hlocks hnm hK hA hP hD0 hAw hS hl
  have hD := zD hD0 hAw
  refine lv_aload_n hx hb d_MW_init_0 rfl (lv_at hl 0 rfl) ?_
  refine W.objInit hx hb hown (hg _ k9_168) (hg _ k1_46) (hg _ k1_47) rfl (by rw [hml]; exact hl.1) rfl d_MW_init_1 (Nat.le_of_ble_eq_true rfl) (Nat.le_of_ble_eq_true rfl) ?_
  refine lv_aload_n hx hb d_MW_init_4 rfl (lv_at hl 0 rfl) ?_
  refine lv_iload_n hx hb d_MW_init_5 rfl (lv_at hl 1 rfl) ?_
  refine zNewa (atype := .int) (ty := .int) (a0 := (N, .inl (fun _ => 0))) (N' := N) hx hb rfl (hg _ k1_82) hK hP hD hS hA 0 rfl (fun _ h => by cases h) (fun _ => rfl) (nI_pos (by omega)) (nI_clamp (by omega)) (by show N * 4 ≤ 536870912; omega) (Nat.le_of_ble_eq_true rfl) (by show 0 + N ≤ N; omega) d_MW_init_6 (fun q6 H1 hP1 hD1 hS1 => ?_)
  clear hP hD hS
  refine va_putF (D := D) (ci := 19) (v := .ref q6) (ty := .array .int) (C := R_MW) (T := T_MW) (N := 2) hx hb hg i_MW t_MW o_MW n_MW hown hK hP1 hD1 hS1 0 rfl rfl 0 (by decide) (hg _ k9_169) (fun _ h9 => h9) rfl hnm rfl (by decide +kernel) rfl rfl (Nat.le_of_ble_eq_true rfl) d_MW_init_8 (fun H2 locs2 hP2 hD2 hS2 => ?_)
  clear hP1 hD1 hS1
  refine W.cs (cells' := 1) (slots' := N) rfl (Nat.zero_add N) ?_
  exact zVret hx hb hr hlocks hP2 hD2 hS2 q6 trivial rfl d_MW_init_11
/-- what set(x) leaves: x's digits to the base 2^24, and how many -/
def MWset (x : Nat) (f : Nat → Int32) (n : Nat) (g : Nat → Int32) : Prop := x / 16777216 ^ n = 0 ∧ (∀ j, j < n → x / 16777216 ^ j ≠ 0) ∧ n ≤ 3 ∧ (∀ i, i < n → g i = nI (x / 16777216 ^ i % 16777216)) ∧ ∀ i, n ≤ i → g i = f i
theorem lcmp_pos {r : Nat} (h : r ≠ 0) (hr : r < 2 ^ 62) : lg_cmp (lN r) 0 = 1 := by
  have h1 : (0 : Int64) < lN r := (pk_lLT (a := 0) (b := r) (by decide) (by omega)).mpr (by omega)
  simp [lg_cmp, h1]
set_option maxHeartbeats 4000000 in
set_option maxRecDepth 100000 in
theorem MW_set_loop {p : Program} {l : Launch} {e : Env} {s : State} {m : MethodId} {below : List Frame} {meth : Method} {c : Code} {D : va_G} {tA : Nat → ClassId} {A : Nat → Prop} {h0 a x N : Nat} {f : Nat → Int32} {args : Array Value} (hx62 : x < 2 ^ 62) (hN : 3 ≤ N) (hN2 : N ≤ 1000) (hx : p.tables.exec = Jvm.exec) (hb : c.code = prog_21_method_2_code) (hr : meth.sig.returnType = none) (hlocks : meth.locks = false) (hml : c.maxLocals = 5) (hg : ∀ w ∈ lw_R, w.before args s = true) (hown : s.vm.findClass "ChanceArenaModel$Whole" = some m.cls) (hK : va_K D vwCl (zT tA) s) :
    ∀ (n j : Nat), j + n = 3 → ∀ (g : Nat → Int32) (H : Heap) (locs : List Loc) (ls : Array Slot), (∀ i, i < j → x / 16777216 ^ i ≠ 0) → (∀ i, i < j → g i = nI (x / 16777216 ^ i % 16777216)) → (∀ i, j ≤ i → g i = f i) → va_P D vwCl [(h0, .inr (19, [.ref a, .int (nI (j))])), (a, .inl (tA 0, N, .inl (g)))] H → va_D A [(h0, .inr (19, [.ref a, .int (nI (j))])), (a, .inl (tA 0, N, .inl (g)))] → va_S A s.heap H locs → lv_has ls 5 [(3, .long (lN (x / 16777216 ^ j))), (0, .ref h0), (1, .long (lN x))] → W p l e { frames := 0, cells := 0, slots := 0, locals := 0 } s m args below meth c H locs 0 0 (MQ below (va_Qv (fun u : Nat × (Nat → Int32) => MWset x f u.1 u.2) (zPost D A (fun u => [(h0, .inr (19, [.ref a, .int (nI (u.1))])), (a, .inl (tA 0, N, .inl (u.2)))])) A) args s 0 0 A) (F0 m 7 ls []) := by
  intro n
  induction n with
  | zero =>
    intro j hj g H locs ls i1 i2 i3 hP hD hS hl
    have hj : j = 3 := hj
    subst hj
    have hz : x / 16777216 ^ 3 = 0 := Nat.div_eq_of_lt (Nat.lt_trans hx62 (by decide))
    rw [hz] at hl
    refine lv_lload_n hx hb d_MW_set_7 rfl (lv_at hl 0 rfl) ?_
    refine lv_lconst (v := 0) hx hb d_MW_set_8 rfl ?_
    refine W.lcmp hx hb d_MW_set_9 ?_
    refine lv_if_le (tgt := 46) hx hb d_MW_set_10 (by decide) (fun c9 => ?_) (fun c9 => absurd (by decide) c9)
    exact zVret hx hb hr hlocks hP hD hS (3, g) ⟨hz, i1, Nat.le_refl 3, i2, i3⟩ rfl d_MW_set_46
  | succ n ih =>
    intro j hj g H locs ls i1 i2 i3 hP hD hS hl
    by_cases hz : x / 16777216 ^ j = 0
    · rw [hz] at hl
      refine lv_lload_n hx hb d_MW_set_7 rfl (lv_at hl 0 rfl) ?_
      refine lv_lconst (v := 0) hx hb d_MW_set_8 rfl ?_
      refine W.lcmp hx hb d_MW_set_9 ?_
      refine lv_if_le (tgt := 46) hx hb d_MW_set_10 (by decide) (fun c9 => ?_) (fun c9 => absurd (by decide) c9)
      exact zVret hx hb hr hlocks hP hD hS (j, g) ⟨hz, i1, by omega, i2, i3⟩ rfl d_MW_set_46
    · have hr62 : x / 16777216 ^ j < 2 ^ 62 := Nat.lt_of_le_of_lt (Nat.div_le_self _ _) hx62
      refine lv_lload_n hx hb d_MW_set_7 rfl (lv_at hl 0 rfl) ?_
      refine lv_lconst (v := 0) hx hb d_MW_set_8 rfl ?_
      refine W.lcmp hx hb d_MW_set_9 ?_
      refine lv_if_le (tgt := 46) hx hb d_MW_set_10 (by decide) (fun c9 => absurd c9 (by rw [lcmp_pos hz hr62]; decide)) (fun c9 => ?_)
      refine lv_aload_n hx hb d_MW_set_13 rfl (lv_at hl 1 rfl) ?_
      refine va_get (D := D) (ci := 19) (v := .ref a) (C := R_MW) (T := T_MW) (N := 2) hx hb hg i_MW hown hK hP 0 rfl rfl 0 (by decide) (hg _ k9_169) (fun _ h9 => h9) rfl d_MW_set_14 ?_
      refine lv_aload_n hx hb d_MW_set_17 rfl (lv_at hl 1 rfl) ?_
      refine va_get (D := D) (ci := 19) (v := .int (nI j)) (C := R_MW) (T := T_MW) (N := 2) hx hb hg i_MW hown hK hP 0 rfl rfl 1 (by decide) (hg _ k9_170) (fun _ h9 => h9) rfl d_MW_set_18 ?_
      refine lv_lload_n hx hb d_MW_set_21 rfl (lv_at hl 0 rfl) ?_
      refine lv_ldc2 hx hb hown (hg _ k9_180) d_MW_set_22 ?_
      refine lv_land hx hb d_MW_set_25 ?_
      refine lv_l2i (v := nI (x / 16777216 ^ j % 16777216)) hx hb d_MW_set_26 (by rw [show (16777215 : Int64) = lN (16777216 - 1) from rfl, g_mask (s := 24) rfl (by decide) (by omega), lN_i]) ?_
      refine va_iast hx hb hK hP hD hS 1 0 rfl rfl (vp_in_nI (by omega) (by omega)) d_MW_set_27 (fun H1 locs1 hP1 hD1 hS1 => ?_)
      clear hP hD hS
      rw [nI_clamp (by omega)] at hP1 hD1
      refine lv_aload_n hx hb d_MW_set_28 rfl (lv_at hl 1 rfl) ?_
      refine lv_dup hx hb d_MW_set_29 rfl ?_
      refine va_get (D := D) (ci := 19) (v := .int (nI j)) (C := R_MW) (T := T_MW) (N := 2) hx hb hg i_MW hown hK hP1 0 rfl rfl 1 (by decide) (hg _ k9_170) (fun _ h9 => h9) rfl d_MW_set_30 ?_
      refine lv_iconst (v := 1) hx hb d_MW_set_33 (by decide) ?_
      refine lv_iadd hx hb d_MW_set_34 ?_
      rw [nI_1]
      refine va_put (D := D) (ci := 19) (v := .int (nI (j + 1))) (ty := .int) (C := R_MW) (T := T_MW) (N := 2) hx hb hg i_MW t_MW o_MW n_MW hown hK hP1 hD1 hS1 0 rfl rfl 1 (by decide) (hg _ k9_170) (fun _ h9 => h9) rfl (by decide +kernel) rfl rfl (Nat.le_of_ble_eq_true rfl) d_MW_set_35 (fun H2 locs2 hP2 hD2 hS2 => ?_)
      clear hP1 hD1 hS1
      refine lv_lload_n hx hb d_MW_set_38 rfl (lv_at hl 0 rfl) ?_
      refine lv_bipush (v := 24) hx hb d_MW_set_39 (by decide) ?_
      refine lv_lshr (v := lN (x / 16777216 ^ (j + 1))) hx hb d_MW_set_41 (by rw [pf_shr (d := 24) (by decide) hr62, Nat.div_div_eq_div_mul, show (2 : Nat) ^ 24 = 16777216 from rfl, ← Nat.pow_succ]) ?_
      refine lv_lstore_n (lv' := [(3, .long (lN (x / 16777216 ^ (j + 1)))), (0, .ref h0), (1, .long (lN x))]) hx hb d_MW_set_42 rfl hl (by decide) rfl (fun ls hl => ?_)
      refine lv_goto (tgt := 7) hx hb d_MW_set_43 (by decide) ?_
      refine ih (j + 1) (by omega) (upd g j (nI (x / 16777216 ^ j % 16777216))) _ _ ls ?_ ?_ ?_ hP2 hD2 hS2 hl
      · intro i hi
        rcases Nat.lt_or_ge i j with h | h
        · exact i1 i h
        · have : i = j := by omega
          subst this; exact hz
      · intro i hi
        rcases Nat.lt_or_ge i j with h | h
        · rw [pk_un (by omega)]; exact i2 i h
        · have : i = j := by omega
          subst this; exact pk_us
      · intro i hi
        rw [pk_un (by omega)]; exact i3 i (by omega)
set_option maxHeartbeats 4000000 in
set_option maxRecDepth 100000 in
/-- Whole.set(x) -/
theorem c_MW_set (l : Launch) (D : va_G) (tA : Nat → ClassId) (h0 a sz x N : Nat) (hx62 : x < 2 ^ 62) (hN : 3 ≤ N) (hN2 : N ≤ 1000) (n0 : Int32) (f : Nat → Int32) : zMv l ({ cls := "ChanceArenaModel$Whole", name := "set", desc := "(J)V" } : Jvm.MethodName) (zW (Jvm.Cond.code ({ cls := "ChanceArenaModel$Whole", name := "set", desc := "(J)V" } : Jvm.MethodName) prog_21_method_2_code (5 : Nat) (Option.none : Option Jvm.ClassFile.FieldType))) { frames := 0, cells := 0, slots := 0, locals := 0 } [.ref h0, .long (lN x)] D tA [(h0, .inr (19, [.ref a, .int n0])), (a, .inl (tA 0, N, .inl f))] sz (fun u : Nat × (Nat → Int32) => MWset x f u.1 u.2) (fun u => [(h0, .inr (19, [.ref a, .int (nI (u.1))])), (a, .inl (tA 0, N, .inl (u.2)))]) 0 0 := by
  refine zOpen (fun A => va_Qv _ (zPost D A (fun u : Nat × (Nat → Int32) => [(h0, .inr (19, [.ref a, .int (nI (u.1))])), (a, .inl (tA 0, N, .inl (u.2)))])) A) (lv := [(0, .ref h0), (1, .long (lN x))]) (by decide) rfl (Nat.le_of_ble_eq_true rfl) rfl ?_
  intro p e s m below meth c A ls hx hb hr hml hh hg hown hlocks hnm hK hA hP hD0 hAw hS hl
  have hD := zD hD0 hAw
  refine lv_aload_n hx hb d_MW_set_0 rfl (lv_at hl 0 rfl) ?_
  refine lv_iconst (v := 0) hx hb d_MW_set_1 (by decide) ?_
  refine va_put (D := D) (ci := 19) (v := .int 0) (ty := .int) (C := R_MW) (T := T_MW) (N := 2) hx hb hg i_MW t_MW o_MW n_MW hown hK hP hD hS 0 rfl rfl 1 (by decide) (hg _ k9_170) (fun _ h9 => h9) rfl (by decide +kernel) rfl rfl (Nat.le_of_ble_eq_true rfl) d_MW_set_2 (fun H1 locs1 hP1 hD1 hS1 => ?_)
  clear hP hD hS
  refine lv_lload_n hx hb d_MW_set_5 rfl (lv_at hl 1 rfl) ?_
  refine lv_lstore_n (lv' := [(3, .long (lN (x / 16777216 ^ 0))), (0, .ref h0), (1, .long (lN x))]) hx hb d_MW_set_6 rfl hl (by decide) (by rw [Nat.pow_zero, Nat.div_one]; rfl) (fun ls hl => ?_)
  exact MW_set_loop hx62 hN hN2 hx hb hr hlocks hml hg hown hK 3 0 rfl f _ _ ls (fun i h => absurd h (Nat.not_lt_zero i)) (fun i h => absurd h (Nat.not_lt_zero i)) (fun i _ => rfl) hP1 hD1 hS1 hl
