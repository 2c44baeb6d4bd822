theorem k9_8 : (Jvm.Cond.fieldLink "ChanceArenaModel$Numbers" (13 : Nat) "ChanceArenaModel$Numbers" "size" "I") ∈ lw_R := zR (zk_9 _ (List.mem_of_getElem? (i := 8) (by decide +kernel))) rfl
theorem k11_4 : (Jvm.Cond.code ({ cls := "ChanceArenaModel$Numbers", name := "add", desc := "(I)V" } : Jvm.MethodName) prog_18_method_2_code (4 : Nat) (Option.none : Option Jvm.ClassFile.FieldType)) ∈ lw_R := zR (zk_11 _ (List.mem_of_getElem? (i := 4) (by decide +kernel))) rfl
theorem d_MN_add_0 : decode prog_18_method_2_code 0 = .ok (.aload_n 0, 1) := dc9_42 (by decide +kernel)
theorem d_MN_add_1 : decode prog_18_method_2_code 1 = .ok (.getfield 13, 3) := dc9_180 (by decide +kernel)
theorem d_MN_add_4 : decode prog_18_method_2_code 4 = .ok (.aload_n 0, 1) := dc9_42 (by decide +kernel)
theorem d_MN_add_5 : decode prog_18_method_2_code 5 = .ok (.getfield 7, 3) := dc9_180 (by decide +kernel)
theorem d_MN_add_8 : decode prog_18_method_2_code 8 = .ok (.arraylength, 1) := dc9_190 (by decide +kernel)
theorem d_MN_add_9 : decode prog_18_method_2_code 9 = .ok (.if_icmp .ne 42, 3) := dc9_160 (by decide +kernel)
theorem d_MN_add_51 : decode prog_18_method_2_code 51 = .ok (.aload_n 0, 1) := dc9_42 (by decide +kernel)
theorem d_MN_add_52 : decode prog_18_method_2_code 52 = .ok (.getfield 7, 3) := dc9_180 (by decide +kernel)
theorem d_MN_add_55 : decode prog_18_method_2_code 55 = .ok (.aload_n 0, 1) := dc9_42 (by decide +kernel)
theorem d_MN_add_56 : decode prog_18_method_2_code 56 = .ok (.getfield 13, 3) := dc9_180 (by decide +kernel)
theorem d_MN_add_59 : decode prog_18_method_2_code 59 = .ok (.iload_n 1, 1) := dc9_27 (by decide +kernel)
theorem d_MN_add_60 : decode prog_18_method_2_code 60 = .ok (.iastore, 1) := dc9_79 (by decide +kernel)
theorem d_MN_add_61 : decode prog_18_method_2_code 61 = .ok (.aload_n 0, 1) := dc9_42 (by decide +kernel)
theorem d_MN_add_62 : decode prog_18_method_2_code 62 = .ok (.aload_n 0, 1) := dc9_42 (by decide +kernel)
theorem d_MN_add_63 : decode prog_18_method_2_code 63 = .ok (.getfield 13, 3) := dc9_180 (by decide +kernel)
theorem d_MN_add_66 : decode prog_18_method_2_code 66 = .ok (.iconst 1, 1) := dc9_4 (by decide +kernel)
theorem d_MN_add_67 : decode prog_18_method_2_code 67 = .ok (.iadd, 1) := dc9_96 (by decide +kernel)
theorem d_MN_add_68 : decode prog_18_method_2_code 68 = .ok (.putfield 13, 3) := dc9_181 (by decide +kernel)
theorem d_MN_add_71 : decode prog_18_method_2_code 71 = .ok (.return_, 1) := dc9_177 (by decide +kernel)
theorem d_MN_add_23 : decode prog_18_method_2_code 23 = .ok (.iload_n 3, 1) := dc9_29 (by decide +kernel)
theorem d_MN_add_24 : decode prog_18_method_2_code 24 = .ok (.aload_n 0, 1) := dc9_42 (by decide +kernel)
theorem d_MN_add_25 : decode prog_18_method_2_code 25 = .ok (.getfield 13, 3) := dc9_180 (by decide +kernel)
theorem d_MN_add_28 : decode prog_18_method_2_code 28 = .ok (.if_icmp .ge 18, 3) := dc9_162 (by decide +kernel)
theorem d_MN_add_31 : decode prog_18_method_2_code 31 = .ok (.aload_n 2, 1) := dc9_44 (by decide +kernel)
theorem d_MN_add_32 : decode prog_18_method_2_code 32 = .ok (.iload_n 3, 1) := dc9_29 (by decide +kernel)
theorem d_MN_add_33 : decode prog_18_method_2_code 33 = .ok (.aload_n 0, 1) := dc9_42 (by decide +kernel)
theorem d_MN_add_34 : decode prog_18_method_2_code 34 = .ok (.getfield 7, 3) := dc9_180 (by decide +kernel)
theorem d_MN_add_37 : decode prog_18_method_2_code 37 = .ok (.iload_n 3, 1) := dc9_29 (by decide +kernel)
theorem d_MN_add_38 : decode prog_18_method_2_code 38 = .ok (.iaload, 1) := dc9_46 (by decide +kernel)
theorem d_MN_add_39 : decode prog_18_method_2_code 39 = .ok (.iastore, 1) := dc9_79 (by decide +kernel)
theorem d_MN_add_40 : decode prog_18_method_2_code 40 = .ok (.iinc 3 1, 3) := by decide +kernel
theorem d_MN_add_43 : decode prog_18_method_2_code 43 = .ok (.goto (-20), 3) := dc9_167 (by decide +kernel)
set_option maxHeartbeats 4000000 in
set_option maxRecDepth 100000 in
/-- Numbers.add, where there is room -/
theorem c_MN_add_room (l : Launch) (D : va_G) (tA : Nat → ClassId) (sz h0 a N k : Nat) (f : Nat → Int32) (v : Int32) (hk : k < N) (hN : N ≤ 1048576) : zMv l ({ cls := "ChanceArenaModel$Numbers", name := "add", desc := "(I)V" } : Jvm.MethodName) (zW (Jvm.Cond.code ({ cls := "ChanceArenaModel$Numbers", name := "add", desc := "(I)V" } : Jvm.MethodName) prog_18_method_2_code (4 : Nat) (Option.none : Option Jvm.ClassFile.FieldType))) { frames := 0, cells := 0, slots := 0, locals := 0 } [.ref h0, .int v] D tA [(h0, .inr (14, [.ref a, .int (nI (k))])), (a, .inl (tA 0, N, .inl (f)))] sz (fun _ : Unit => True) (fun _ => [(h0, .inr (14, [.ref a, .int (nI (k + 1))])), (a, .inl (tA 0, N, .inl (upd f k v)))]) 0 0 := by
  refine zOpen (fun A => va_Qv (fun _ : Unit => True) (zPost D A (fun _ => [(h0, .inr (14, [.ref a, .int (nI (k + 1))])), (a, .inl (tA 0, N, .inl (upd f k v)))])) A) (lv := [(0, .ref h0), (1, .int v)]) (by decide) rfl (Nat.le_of_ble_eq_true rfl) rfl ?_
  intro p e s m below meth c A ls hx hb hr hml hh hg hown hlocks hnm hK hA hP hD0 hAw hS hl
  have hD := zD hD0 hAw
  refine lv_aload_n hx hb d_MN_add_0 rfl (lv_at hl 0 rfl) ?_
  refine va_get (D := D) (ci := 14) (v := .int (nI k)) (C := R_MN) (T := T_MN) (N := 2) hx hb hg i_MN hown hK hP 0 rfl rfl 1 (by decide) (hg _ k9_8) (fun _ h9 => h9) rfl d_MN_add_1 ?_
  refine lv_aload_n hx hb d_MN_add_4 rfl (lv_at hl 0 rfl) ?_
  refine va_get (D := D) (ci := 14) (v := .ref a) (C := R_MN) (T := T_MN) (N := 2) hx hb hg i_MN hown hK hP 0 rfl rfl 0 (by decide) (hg _ k9_6) (fun _ h9 => h9) rfl d_MN_add_5 ?_
  refine va_alen (v := nI N) hx hb hK hP 1 0 rfl rfl rfl d_MN_add_8 ?_
  refine lv_icmp_ne (tgt := 51) hx hb d_MN_add_9 (by decide) (fun _ => ?_) (fun c9 => absurd ((nI_eq (by omega) (by omega)).mp c9) (by omega))
  refine lv_aload_n hx hb d_MN_add_51 rfl (lv_at hl 0 rfl) ?_
  refine va_get (D := D) (ci := 14) (v := .ref a) (C := R_MN) (T := T_MN) (N := 2) hx hb hg i_MN hown hK hP 0 rfl rfl 0 (by decide) (hg _ k9_6) (fun _ h9 => h9) rfl d_MN_add_52 ?_
  refine lv_aload_n hx hb d_MN_add_55 rfl (lv_at hl 0 rfl) ?_
  refine va_get (D := D) (ci := 14) (v := .int (nI k)) (C := R_MN) (T := T_MN) (N := 2) hx hb hg i_MN hown hK hP 0 rfl rfl 1 (by decide) (hg _ k9_8) (fun _ h9 => h9) rfl d_MN_add_56 ?_
  refine lv_iload_n hx hb d_MN_add_59 rfl (lv_at hl 1 rfl) ?_
  refine va_iast hx hb hK hP hD hS 1 0 rfl rfl (vp_in_nI hk (by omega)) d_MN_add_60 (fun H1 locs1 hP1 hD1 hS1 => ?_)
  clear hP hD hS
  rw [nI_clamp (by omega)] at hP1 hD1
  refine lv_aload_n hx hb d_MN_add_61 rfl (lv_at hl 0 rfl) ?_
  refine lv_aload_n hx hb d_MN_add_62 rfl (lv_at hl 0 rfl) ?_
  refine va_get (D := D) (ci := 14) (v := .int (nI k)) (C := R_MN) (T := T_MN) (N := 2) hx hb hg i_MN hown hK hP1 0 rfl rfl 1 (by decide) (hg _ k9_8) (fun _ h9 => h9) rfl d_MN_add_63 ?_
  refine lv_iconst (v := 1) hx hb d_MN_add_66 (by decide) ?_
  refine lv_iadd hx hb d_MN_add_67 ?_
  rw [nI_1]
  refine va_put (D := D) (ci := 14) (v := .int (nI (k + 1))) (ty := .int) (C := R_MN) (T := T_MN) (N := 2) hx hb hg i_MN t_MN o_MN n_MN hown hK hP1 hD1 hS1 0 rfl rfl 1 (by decide) (hg _ k9_8) (fun _ h9 => h9) rfl (by decide +kernel) rfl rfl (Nat.le_of_ble_eq_true rfl) d_MN_add_68 (fun H2 locs2 hP2 hD2 hS2 => ?_)
  clear hP1 hD1 hS1
  exact zVret (post := fun _ : Unit => True) (W1 := fun _ => [(h0, .inr (14, [.ref a, .int (nI (k + 1))])), (a, .inl (tA 0, N, .inl (upd f k v)))]) hx hb hr hlocks hP2 hD2 hS2 () trivial rfl d_MN_add_71
theorem cp_up {f : Nat → Int32} {i : Nat} : upd (fun j => if j < i then f j else 0) i (f i) = fun j => if j < i + 1 then f j else 0 := by
  funext j
  by_cases h : j = i
  · subst h; rw [pk_us, if_pos (by omega)]
  · rw [pk_un h]
    by_cases h2 : j < i
    · rw [if_pos h2, if_pos (by omega)]
    · rw [if_neg h2, if_neg (by omega)]
set_option maxHeartbeats 4000000 in
set_option maxRecDepth 100000 in
theorem MN_copy {p : Program} {l : Launch} {e : Env} {s : State} {m : MethodId} {args : Array Value} {below : List Frame} {meth : Method} {c : Code} {Q : State → Prop} {D : va_G} {tA : Nat → ClassId} {A : Nat → Prop} {h0 a q N : Nat} {f : Nat → Int32} {v : Int32} (hN : N ≤ 1048576) (hx : p.tables.exec = Jvm.exec) (hb : c.code = prog_18_method_2_code) (hg : ∀ w ∈ lw_R, w.before args s = true) (hown : s.vm.findClass "ChanceArenaModel$Numbers" = some m.cls) (hK : va_K D vwCl (zT tA) s)
    (kend : ∀ (H : Heap) (locs : List Loc) (ls : Array Slot), va_P D vwCl [(h0, .inr (14, [.ref a, .int (nI N)])), (a, .inl (tA 0, N, .inl f)), (q, .inl (tA 0, 2 * N, .inl ((fun j => if j < N then f j else 0))))] H → va_D A [(h0, .inr (14, [.ref a, .int (nI N)])), (a, .inl (tA 0, N, .inl f)), (q, .inl (tA 0, 2 * N, .inl ((fun j => if j < N then f j else 0))))] → va_S A s.heap H locs → lv_has ls 4 [(3, .int (nI N)), (2, .ref q), (0, .ref h0), (1, .int v)] → W p l e { frames := 0, cells := 1, slots := 2 * N, locals := 0 } s m args below meth c H locs 1 (2 * N) Q (F0 m 46 ls [])) :
    ∀ (t i : Nat), i + t = N → ∀ (H : Heap) (locs : List Loc) (ls : Array Slot), va_P D vwCl [(h0, .inr (14, [.ref a, .int (nI N)])), (a, .inl (tA 0, N, .inl f)), (q, .inl (tA 0, 2 * N, .inl ((fun j => if j < i then f j else 0))))] H → va_D A [(h0, .inr (14, [.ref a, .int (nI N)])), (a, .inl (tA 0, N, .inl f)), (q, .inl (tA 0, 2 * N, .inl ((fun j => if j < i then f j else 0))))] → va_S A s.heap H locs → lv_has ls 4 [(3, .int (nI i)), (2, .ref q), (0, .ref h0), (1, .int v)] → W p l e { frames := 0, cells := 1, slots := 2 * N, locals := 0 } s m args below meth c H locs 1 (2 * N) Q (F0 m 23 ls []) := by
  intro t
  induction t with
  | zero =>
    intro i hi H locs ls hP hD hS hl
    have hi : i = N := hi
    subst hi
    refine lv_iload_n hx hb d_MN_add_23 rfl (lv_at hl 0 rfl) ?_
    refine lv_aload_n hx hb d_MN_add_24 rfl (lv_at hl 2 rfl) ?_
    refine va_get (D := D) (ci := 14) (v := .int (nI i)) (C := R_MN) (T := T_MN) (N := 2) hx hb hg i_MN hown hK hP 0 rfl rfl 1 (by decide) (hg _ k9_8) (fun _ h9 => h9) rfl d_MN_add_25 ?_
    refine lv_icmp_ge (tgt := 46) hx hb d_MN_add_28 (by decide) (fun _ => ?_) (fun c9 => absurd (nI_le (Nat.le_refl i) (by omega)) c9)
    exact kend H locs ls hP hD hS hl
  | succ t ih =>
    intro i hi H locs ls hP hD hS hl
    refine lv_iload_n hx hb d_MN_add_23 rfl (lv_at hl 0 rfl) ?_
    refine lv_aload_n hx hb d_MN_add_24 rfl (lv_at hl 2 rfl) ?_
    refine va_get (D := D) (ci := 14) (v := .int (nI N)) (C := R_MN) (T := T_MN) (N := 2) hx hb hg i_MN hown hK hP 0 rfl rfl 1 (by decide) (hg _ k9_8) (fun _ h9 => h9) rfl d_MN_add_25 ?_
    refine lv_icmp_ge (tgt := 46) hx hb d_MN_add_28 (by decide) (fun c9 => absurd c9 (nI_ge (a := i) (b := N) (by omega) (by omega))) (fun _ => ?_)
    refine lv_aload_n hx hb d_MN_add_31 rfl (lv_at hl 1 rfl) ?_
    refine lv_iload_n hx hb d_MN_add_32 rfl (lv_at hl 0 rfl) ?_
    refine lv_aload_n hx hb d_MN_add_33 rfl (lv_at hl 2 rfl) ?_
    refine va_get (D := D) (ci := 14) (v := .ref a) (C := R_MN) (T := T_MN) (N := 2) hx hb hg i_MN hown hK hP 0 rfl rfl 0 (by decide) (hg _ k9_6) (fun _ h9 => h9) rfl d_MN_add_34 ?_
    refine lv_iload_n hx hb d_MN_add_37 rfl (lv_at hl 0 rfl) ?_
    refine va_iald hx hb hK hP 1 0 rfl rfl (vp_in_nI (by omega) (by omega)) d_MN_add_38 ?_
    rw [nI_clamp (by omega)]
    refine va_iast hx hb hK hP hD hS 2 0 rfl rfl (vp_in_nI (by omega) (by omega)) d_MN_add_39 (fun H1 locs1 hP1 hD1 hS1 => ?_)
    clear hP hD hS
    replace hP1 : va_P D vwCl [(h0, .inr (14, [.ref a, .int (nI N)])), (a, .inl (tA 0, N, .inl f)), (q, .inl (tA 0, 2 * N, .inl (upd (fun j => if j < i then f j else 0) (nI i).toNatClampNeg (f i))))] _ := hP1
    replace hD1 : va_D A [(h0, .inr (14, [.ref a, .int (nI N)])), (a, .inl (tA 0, N, .inl f)), (q, .inl (tA 0, 2 * N, .inl (upd (fun j => if j < i then f j else 0) (nI i).toNatClampNeg (f i))))] := hD1
    rw [nI_clamp (by omega), cp_up] at hP1 hD1
    refine lv_iinc (v := nI (i + 1)) (lv' := [(3, .int (nI (i + 1))), (2, .ref q), (0, .ref h0), (1, .int v)]) hx hb d_MN_add_40 hl (k := 0) rfl (show nI i + Int32.ofInt 1 = _ from nI_1 i) (by decide) rfl (fun ls hl => ?_)
    refine lv_goto (tgt := 23) hx hb d_MN_add_43 (by decide) ?_
    exact ih (i + 1) (by omega) _ _ ls hP1 hD1 hS1 hl
