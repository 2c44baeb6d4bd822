theorem d_MN_add_12 : decode prog_18_method_2_code 12 = .ok (.iconst 2, 1) := dc9_5 (by decide +kernel)
theorem d_MN_add_13 : decode prog_18_method_2_code 13 = .ok (.aload_n 0, 1) := dc9_42 (by decide +kernel)
theorem d_MN_add_14 : decode prog_18_method_2_code 14 = .ok (.getfield 13, 3) := dc9_180 (by decide +kernel)
theorem d_MN_add_17 : decode prog_18_method_2_code 17 = .ok (.imul, 1) := dc9_104 (by decide +kernel)
theorem d_MN_add_18 : decode prog_18_method_2_code 18 = .ok (.newarray .int, 2) := by decide +kernel
theorem d_MN_add_20 : decode prog_18_method_2_code 20 = .ok (.astore_n 2, 1) := dc9_77 (by decide +kernel)
theorem d_MN_add_21 : decode prog_18_method_2_code 21 = .ok (.iconst 0, 1) := dc9_3 (by decide +kernel)
theorem d_MN_add_22 : decode prog_18_method_2_code 22 = .ok (.istore_n 3, 1) := dc9_62 (by decide +kernel)
theorem d_MN_add_46 : decode prog_18_method_2_code 46 = .ok (.aload_n 0, 1) := dc9_42 (by decide +kernel)
theorem d_MN_add_47 : decode prog_18_method_2_code 47 = .ok (.aload_n 2, 1) := dc9_44 (by decide +kernel)
theorem d_MN_add_48 : decode prog_18_method_2_code 48 = .ok (.putfield 7, 3) := dc9_181 (by decide +kernel)
set_option maxHeartbeats 4000000 in
set_option maxRecDepth 100000 in
/-- Numbers.add, where it grows -/
theorem c_MN_add_grow (l : Launch) (D : va_G) (tA : Nat → ClassId) (sz h0 a N : Nat) (f : Nat → Int32) (v : Int32) (h1 : 1 ≤ N) (hN : N ≤ 1048576) : zMv l ({ cls := "ChanceArenaModel$Numbers", name := "add", desc := "(I)V" } : Jvm.MethodName) (zW (Jvm.Cond.code ({ cls := "ChanceArenaModel$Numbers", name := "add", desc := "(I)V" } : Jvm.MethodName) prog_18_method_2_code (4 : Nat) (Option.none : Option Jvm.ClassFile.FieldType))) { frames := 0, cells := 1, slots := 2 * N, locals := 0 } [.ref h0, .int v] D tA [(h0, .inr (14, [.ref a, .int (nI N)])), (a, .inl (tA 0, N, .inl f))] sz (fun _ : Nat => True) (fun q => [(h0, .inr (14, [.ref q, .int (nI (N + 1))])), (a, .inl (tA 0, N, .inl f)), (q, .inl (tA 0, 2 * N, .inl (upd (fun j => if j < N then f j else 0) N v)))]) 1 (2 * N) := by
  refine zOpen (fun A => va_Qv (fun _ : Nat => True) (zPost D A (fun q => [(h0, .inr (14, [.ref q, .int (nI (N + 1))])), (a, .inl (tA 0, N, .inl f)), (q, .inl (tA 0, 2 * N, .inl (upd (fun j => if j < N then f j else 0) N v)))])) A) (lv := [(0, .ref h0), (1, .int v)]) (by decide) rfl (Nat.le_of_ble_eq_true rfl) rfl ?_
  intro p e s m below meth c A ls hx hb hr hml hh hg hown hlocks hnm hK hA hP hD0 hAw hS hl
  have hD := zD hD0 hAw
  refine lv_aload_n hx hb d_MN_add_0 rfl (lv_at hl 0 rfl) ?_
  refine va_get (D := D) (ci := 14) (v := .int (nI N)) (C := R_MN) (T := T_MN) (N := 2) hx hb hg i_MN hown hK hP 0 rfl rfl 1 (by decide) (hg _ k9_8) (fun _ h9 => h9) rfl d_MN_add_1 ?_
  refine lv_aload_n hx hb d_MN_add_4 rfl (lv_at hl 0 rfl) ?_
  refine va_get (D := D) (ci := 14) (v := .ref a) (C := R_MN) (T := T_MN) (N := 2) hx hb hg i_MN hown hK hP 0 rfl rfl 0 (by decide) (hg _ k9_6) (fun _ h9 => h9) rfl d_MN_add_5 ?_
  refine va_alen (v := nI N) hx hb hK hP 1 0 rfl rfl rfl d_MN_add_8 ?_
  refine lv_icmp_ne (tgt := 51) hx hb d_MN_add_9 (by decide) (fun c9 => absurd rfl c9) (fun _ => ?_)
  refine lv_iconst (v := nI 2) hx hb d_MN_add_12 (by decide) ?_
  refine lv_aload_n hx hb d_MN_add_13 rfl (lv_at hl 0 rfl) ?_
  refine va_get (D := D) (ci := 14) (v := .int (nI N)) (C := R_MN) (T := T_MN) (N := 2) hx hb hg i_MN hown hK hP 0 rfl rfl 1 (by decide) (hg _ k9_8) (fun _ h9 => h9) rfl d_MN_add_14 ?_
  refine lv_imul hx hb d_MN_add_17 ?_
  rw [pk_mul]
  refine zNewa (atype := .int) (ty := .int) (a0 := (2 * N, .inl (fun _ => 0))) (N' := 2 * N) hx hb rfl (hg _ k1_82) hK hP hD hS hA 0 rfl (fun _ h => by cases h) (fun _ => rfl) (nI_pos (by omega)) (nI_clamp (by omega)) (by show 2 * N * 4 ≤ 536870912; omega) (Nat.le_of_ble_eq_true rfl) (by show 0 + 2 * N ≤ 2 * N; omega) d_MN_add_18 (fun q H1 hP1 hD1 hS1 => ?_)
  clear hP hD hS
  refine lv_astore_n (lv' := [(2, .ref q), (0, .ref h0), (1, .int v)]) hx hb d_MN_add_20 rfl hl (by decide) rfl (fun ls hl => ?_)
  refine lv_iconst (v := nI 0) hx hb d_MN_add_21 (by decide) ?_
  refine lv_istore_n (lv' := [(3, .int (nI 0)), (2, .ref q), (0, .ref h0), (1, .int v)]) hx hb d_MN_add_22 rfl hl (by decide) rfl (fun ls hl => ?_)
  replace hP1 : va_P D vwCl [(h0, .inr (14, [.ref a, .int (nI N)])), (a, .inl (tA 0, N, .inl f)), (q, .inl (tA 0, 2 * N, .inl (fun _ => 0)))] _ := hP1
  replace hD1 : va_D A [(h0, .inr (14, [.ref a, .int (nI N)])), (a, .inl (tA 0, N, .inl f)), (q, .inl (tA 0, 2 * N, .inl (fun _ => 0)))] := hD1
  have e0 : (fun _ => 0 : Nat → Int32) = fun j => if j < 0 then f j else 0 := by funext j; rw [if_neg (Nat.not_lt_zero j)]
  rw [e0] at hP1 hD1
  refine W.cs (cells' := 1) (slots' := 2 * N) rfl (Nat.zero_add _) ?_
  refine MN_copy hN hx hb hg hown hK ?_ N 0 (Nat.zero_add N) _ _ ls hP1 hD1 hS1 hl
  intro H locs ls hP hD hS hl
  refine lv_aload_n hx hb d_MN_add_46 rfl (lv_at hl 2 rfl) ?_
  refine lv_aload_n hx hb d_MN_add_47 rfl (lv_at hl 1 rfl) ?_
  refine va_put (D := D) (ci := 14) (v := .ref q) (ty := .array .int) (C := R_MN) (T := T_MN) (N := 2) hx hb hg i_MN t_MN o_MN n_MN hown hK hP hD hS 0 rfl rfl 0 (by decide) (hg _ k9_6) (fun _ h9 => h9) rfl (by decide +kernel) rfl rfl (Nat.le_of_ble_eq_true rfl) d_MN_add_48 (fun H1 locs1 hP1 hD1 hS1 => ?_)
  clear hP hD hS
  refine lv_aload_n hx hb d_MN_add_51 rfl (lv_at hl 2 rfl) ?_
  refine va_get (D := D) (ci := 14) (v := .ref q) (C := R_MN) (T := T_MN) (N := 2) hx hb hg i_MN hown hK hP1 0 rfl rfl 0 (by decide) (hg _ k9_6) (fun _ h9 => h9) rfl d_MN_add_52 ?_
  refine lv_aload_n hx hb d_MN_add_55 rfl (lv_at hl 2 rfl) ?_
  refine va_get (D := D) (ci := 14) (v := .int (nI N)) (C := R_MN) (T := T_MN) (N := 2) hx hb hg i_MN hown hK hP1 0 rfl rfl 1 (by decide) (hg _ k9_8) (fun _ h9 => h9) rfl d_MN_add_56 ?_
  refine lv_iload_n hx hb d_MN_add_59 rfl (lv_at hl 3 rfl) ?_
  refine va_iast hx hb hK hP1 hD1 hS1 2 0 rfl rfl (vp_in_nI (by omega) (by omega)) d_MN_add_60 (fun H2 locs2 hP2 hD2 hS2 => ?_)
  clear hP1 hD1 hS1
  rw [nI_clamp (by omega)] at hP2 hD2
  refine lv_aload_n hx hb d_MN_add_61 rfl (lv_at hl 2 rfl) ?_
  refine lv_aload_n hx hb d_MN_add_62 rfl (lv_at hl 2 rfl) ?_
  refine va_get (D := D) (ci := 14) (v := .int (nI N)) (C := R_MN) (T := T_MN) (N := 2) hx hb hg i_MN hown hK hP2 0 rfl rfl 1 (by decide) (hg _ k9_8) (fun _ h9 => h9) rfl d_MN_add_63 ?_
  refine lv_iconst (v := 1) hx hb d_MN_add_66 (by decide) ?_
  refine lv_iadd hx hb d_MN_add_67 ?_
  rw [nI_1]
  refine va_put (D := D) (ci := 14) (v := .int (nI (N + 1))) (ty := .int) (C := R_MN) (T := T_MN) (N := 2) hx hb hg i_MN t_MN o_MN n_MN hown hK hP2 hD2 hS2 0 rfl rfl 1 (by decide) (hg _ k9_8) (fun _ h9 => h9) rfl (by decide +kernel) rfl rfl (Nat.le_of_ble_eq_true rfl) d_MN_add_68 (fun H3 locs3 hP3 hD3 hS3 => ?_)
  clear hP2 hD2 hS2
  exact zVret (post := fun _ : Nat => True) (W1 := fun q => [(h0, .inr (14, [.ref q, .int (nI (N + 1))])), (a, .inl (tA 0, N, .inl f)), (q, .inl (tA 0, 2 * N, .inl (upd (fun j => if j < N then f j else 0) N v)))]) hx hb hr hlocks hP3 hD3 hS3 q trivial rfl d_MN_add_71
