theorem k4_8 : (Jvm.Cond.code ({ cls := "ChanceArena", name := "feed", desc := "(IIIII)I" } : Jvm.MethodName) prog_1_method_2_code (6 : Nat) (Option.some Jvm.ClassFile.FieldType.int)) ∈ lw_R := zR (zk_4 _ (List.mem_of_getElem? (i := 8) (by decide +kernel))) rfl
theorem k4_16 : (Jvm.Cond.methodLink "ChanceArena" (107 : Nat) ({ cls := "ChanceArena", name := "putFour", desc := "(I)V" } : Jvm.MethodName)) ∈ lw_R := zR (zk_4 _ (List.mem_of_getElem? (i := 16) (by decide +kernel))) rfl
theorem k4_18 : (Jvm.Cond.instanceMethod ({ cls := "ChanceArena", name := "putFour", desc := "(I)V" } : Jvm.MethodName)) ∈ lw_R := zR (zk_4 _ (List.mem_of_getElem? (i := 18) (by decide +kernel))) rfl
theorem ks_CA_putFour : Cond.selects "ChanceArena" ({ cls := "ChanceArena", name := "putFour", desc := "(I)V" } : Jvm.MethodName) ({ cls := "ChanceArena", name := "putFour", desc := "(I)V" } : Jvm.MethodName) ∈ lw_R := zR (List.mem_append_left _ (List.mem_of_getElem? (i := 1) (by decide +kernel))) rfl
theorem d_CA_feed_0 : decode prog_1_method_2_code 0 = .ok (.aload_n 0, 1) := dc9_42 (by decide +kernel)
theorem d_CA_feed_1 : decode prog_1_method_2_code 1 = .ok (.getfield 13, 3) := dc9_180 (by decide +kernel)
theorem d_CA_feed_4 : decode prog_1_method_2_code 4 = .ok (.bipush 20, 2) := dc9_16 (by decide +kernel)
theorem d_CA_feed_6 : decode prog_1_method_2_code 6 = .ok (.iadd, 1) := dc9_96 (by decide +kernel)
theorem d_CA_feed_7 : decode prog_1_method_2_code 7 = .ok (.sipush 16384, 3) := dc9_17 (by decide +kernel)
theorem d_CA_feed_10 : decode prog_1_method_2_code 10 = .ok (.if_icmp .le 5, 3) := dc9_164 (by decide +kernel)
theorem d_CA_feed_15 : decode prog_1_method_2_code 15 = .ok (.aload_n 0, 1) := dc9_42 (by decide +kernel)
theorem d_CA_feed_16 : decode prog_1_method_2_code 16 = .ok (.getfield 13, 3) := dc9_180 (by decide +kernel)
theorem d_CA_feed_19 : decode prog_1_method_2_code 19 = .ok (.bipush 20, 2) := dc9_16 (by decide +kernel)
theorem d_CA_feed_21 : decode prog_1_method_2_code 21 = .ok (.iadd, 1) := dc9_96 (by decide +kernel)
theorem d_CA_feed_22 : decode prog_1_method_2_code 22 = .ok (.aload_n 0, 1) := dc9_42 (by decide +kernel)
theorem d_CA_feed_23 : decode prog_1_method_2_code 23 = .ok (.getfield 7, 3) := dc9_180 (by decide +kernel)
theorem d_CA_feed_26 : decode prog_1_method_2_code 26 = .ok (.arraylength, 1) := dc9_190 (by decide +kernel)
theorem d_CA_feed_27 : decode prog_1_method_2_code 27 = .ok (.if_icmp .le 11, 3) := dc9_164 (by decide +kernel)
theorem d_CA_feed_38 : decode prog_1_method_2_code 38 = .ok (.aload_n 0, 1) := dc9_42 (by decide +kernel)
theorem d_CA_feed_39 : decode prog_1_method_2_code 39 = .ok (.iload_n 1, 1) := dc9_27 (by decide +kernel)
theorem d_CA_feed_40 : decode prog_1_method_2_code 40 = .ok (.invokevirtual 107, 3) := dc9_182 (by decide +kernel)
theorem d_CA_feed_43 : decode prog_1_method_2_code 43 = .ok (.aload_n 0, 1) := dc9_42 (by decide +kernel)
theorem d_CA_feed_44 : decode prog_1_method_2_code 44 = .ok (.iload_n 2, 1) := dc9_28 (by decide +kernel)
theorem d_CA_feed_45 : decode prog_1_method_2_code 45 = .ok (.invokevirtual 107, 3) := dc9_182 (by decide +kernel)
theorem d_CA_feed_48 : decode prog_1_method_2_code 48 = .ok (.aload_n 0, 1) := dc9_42 (by decide +kernel)
theorem d_CA_feed_49 : decode prog_1_method_2_code 49 = .ok (.iload_n 3, 1) := dc9_29 (by decide +kernel)
theorem d_CA_feed_50 : decode prog_1_method_2_code 50 = .ok (.invokevirtual 107, 3) := dc9_182 (by decide +kernel)
theorem d_CA_feed_53 : decode prog_1_method_2_code 53 = .ok (.aload_n 0, 1) := dc9_42 (by decide +kernel)
theorem d_CA_feed_54 : decode prog_1_method_2_code 54 = .ok (.iload 4, 2) := dc9_21 (by decide +kernel)
theorem d_CA_feed_56 : decode prog_1_method_2_code 56 = .ok (.invokevirtual 107, 3) := dc9_182 (by decide +kernel)
theorem d_CA_feed_59 : decode prog_1_method_2_code 59 = .ok (.aload_n 0, 1) := dc9_42 (by decide +kernel)
theorem d_CA_feed_60 : decode prog_1_method_2_code 60 = .ok (.iload 5, 2) := dc9_21 (by decide +kernel)
theorem d_CA_feed_62 : decode prog_1_method_2_code 62 = .ok (.invokevirtual 107, 3) := dc9_182 (by decide +kernel)
theorem d_CA_feed_65 : decode prog_1_method_2_code 65 = .ok (.aload_n 0, 1) := dc9_42 (by decide +kernel)
theorem d_CA_feed_66 : decode prog_1_method_2_code 66 = .ok (.getfield 13, 3) := dc9_180 (by decide +kernel)
theorem d_CA_feed_69 : decode prog_1_method_2_code 69 = .ok (.ireturn, 1) := dc9_172 (by decide +kernel)
/-- four characters more -/
abbrev four4 (f : Nat → Int32) (k : Nat) (b : Int32) : Nat → Int32 := upd (upd (upd (upd f k (chr4 b 24)) (k + 1) (chr4 b 16)) (k + 1 + 1) (chr4 b 8)) (k + 1 + 1 + 1) (chr4 b 0)
set_option maxHeartbeats 4000000 in
set_option maxRecDepth 100000 in
/-- feed, where the tape has room -/
theorem c_CA_feed_room (l : Launch) (D : va_G) (tA : Nat → ClassId) (sz h0 ta N k : Nat) (fs : List Value) (f : Nat → Int32) (ba bb bc bd be : Int32) (hk : k + 20 ≤ N) (hk2 : k + 20 ≤ 16384) (hN : N ≤ 32768) (htp : fs[0]? = some (.ref ta)) (hln : fs[1]? = some (.int (nI k))) : zMi l ({ cls := "ChanceArena", name := "feed", desc := "(IIIII)I" } : Jvm.MethodName) (zW (Jvm.Cond.code ({ cls := "ChanceArena", name := "feed", desc := "(IIIII)I" } : Jvm.MethodName) prog_1_method_2_code (6 : Nat) (Option.some Jvm.ClassFile.FieldType.int))) { frames := 1, cells := 0, slots := 0, locals := 22 } [.ref h0, .int ba, .int bb, .int bc, .int bd, .int be] D tA [(h0, .inr (0, fs)), (ta, .inl (tA 2, N, .inl (f)))] sz (fun r (_ : Unit) => r = nI (k + 20)) (fun _ => [(h0, .inr (0, (fs.set 1 (.int (nI (k + 20)))))), (ta, .inl (tA 2, N, .inl ((four4 (four4 (four4 (four4 (four4 f (k) ba) (k + 4) bb) (k + 8) bc) (k + 12) bd) (k + 16) be))))]) 0 0 := by
  refine zOpen (fun A => va_Qi (fun r (_ : Unit) => r = nI (k + 20)) (zPost D A (fun _ => [(h0, .inr (0, (fs.set 1 (.int (nI (k + 20)))))), (ta, .inl (tA 2, N, .inl ((four4 (four4 (four4 (four4 (four4 f (k) ba) (k + 4) bb) (k + 8) bc) (k + 12) bd) (k + 16) be))))])) A) (lv := [(0, .ref h0), (1, .int ba), (2, .int bb), (3, .int bc), (4, .int bd), (5, .int be)]) (by decide) rfl (Nat.le_of_ble_eq_true rfl) rfl ?_
  intro p e s m below meth c A ls hx hb hr hml hh hg hown hlocks hnm hK hA hP hD0 hAw hS hl
  have hD := zD hD0 hAw
  refine lv_aload_n hx hb d_CA_feed_0 rfl (lv_at hl 0 rfl) ?_
  refine va_get (D := D) (ci := 0) (v := .int (nI k)) (C := R_CA) (T := T_CA) (N := 19) hx hb hg i_CA hown hK hP 0 rfl rfl 1 (by decide) (hg _ k3_188) (fun _ h9 => h9) hln d_CA_feed_1 ?_
  refine lv_bipush (v := nI 20) hx hb d_CA_feed_4 (by decide) ?_
  refine lv_iadd hx hb d_CA_feed_6 ?_
  rw [nI_add]
  refine lv_sipush (v := nI 16384) hx hb d_CA_feed_7 (by decide) ?_
  refine lv_icmp_le (tgt := 15) hx hb d_CA_feed_10 (by decide) (fun _ => ?_) (fun c9 => absurd (nI_le hk2 (by decide)) c9)
  refine lv_aload_n hx hb d_CA_feed_15 rfl (lv_at hl 0 rfl) ?_
  refine va_get (D := D) (ci := 0) (v := .int (nI k)) (C := R_CA) (T := T_CA) (N := 19) hx hb hg i_CA hown hK hP 0 rfl rfl 1 (by decide) (hg _ k3_188) (fun _ h9 => h9) hln d_CA_feed_16 ?_
  refine lv_bipush (v := nI 20) hx hb d_CA_feed_19 (by decide) ?_
  refine lv_iadd hx hb d_CA_feed_21 ?_
  rw [nI_add]
  refine lv_aload_n hx hb d_CA_feed_22 rfl (lv_at hl 0 rfl) ?_
  refine va_get (D := D) (ci := 0) (v := .ref ta) (C := R_CA) (T := T_CA) (N := 19) hx hb hg i_CA hown hK hP 0 rfl rfl 0 (by decide) (hg _ k3_187) (fun _ h9 => h9) htp d_CA_feed_23 ?_
  refine va_alen (v := nI N) hx hb hK hP 1 2 rfl rfl rfl d_CA_feed_26 ?_
  refine lv_icmp_le (tgt := 38) hx hb d_CA_feed_27 (by decide) (fun _ => ?_) (fun c9 => absurd (nI_le hk (by omega)) c9)
  refine lv_aload_n hx hb d_CA_feed_38 rfl (lv_at hl 0 rfl) ?_
  refine lv_iload_n hx hb d_CA_feed_39 rfl (lv_at hl 1 rfl) ?_
  refine zCallv (wc := [(h0, .inr (0, fs)), (ta, .inl (tA 2, N, .inl (f)))]) (wr := []) hP hD hS hA [0, 1] [] rfl rfl (by decide) (by decide) (va_runV (As := [.int ba]) (rest := []) ⟨hx, hb, hml, hown, hg⟩ (c_CA_putFour l D tA _ h0 ta N k fs f ba (by omega) hN htp hln) (zV 1 hg k4_16 k4_18 ks_CA_putFour k1_1 k4_19 rfl rfl (by decide +kernel) ⟨(Nat.le_of_ble_eq_true rfl), (Nat.le_of_ble_eq_true rfl)⟩) (zPreV hh hK hP hD [0, 1] (by decide) rfl (ci := 0) rfl 0 rfl) rfl rfl hl.1 rfl (lv_room (Nat.le_of_ble_eq_true rfl)) d_CA_feed_40 ⟨(Nat.le_of_ble_eq_true rfl), (Nat.le_of_ble_eq_true rfl)⟩) (fun _ H1 locs1 _ hP1 hD1 hS1 => ?_)
  clear hP hD hS
  replace hP1 : va_P D vwCl [(h0, .inr (0, (fs.set 1 (.int (nI (k + 4)))))), (ta, .inl (tA 2, N, .inl ((four4 f (k) ba))))] _ := hP1
  replace hD1 : va_D A [(h0, .inr (0, (fs.set 1 (.int (nI (k + 4)))))), (ta, .inl (tA 2, N, .inl ((four4 f (k) ba))))] := hD1
  refine lv_aload_n hx hb d_CA_feed_43 rfl (lv_at hl 0 rfl) ?_
  refine lv_iload_n hx hb d_CA_feed_44 rfl (lv_at hl 2 rfl) ?_
  refine zCallv (wc := [(h0, .inr (0, (fs.set 1 (.int (nI (k + 4)))))), (ta, .inl (tA 2, N, .inl ((four4 f (k) ba))))]) (wr := []) hP1 hD1 hS1 hA [0, 1] [] rfl rfl (by decide) (by decide) (va_runV (As := [.int bb]) (rest := []) ⟨hx, hb, hml, hown, hg⟩ (c_CA_putFour l D tA _ h0 ta N (k + 4) (fs.set 1 (.int (nI (k + 4)))) (four4 f (k) ba) bb (by omega) hN (zSetN (by decide) htp) (zSetS hln)) (zV 1 hg k4_16 k4_18 ks_CA_putFour k1_1 k4_19 rfl rfl (by decide +kernel) ⟨(Nat.le_of_ble_eq_true rfl), (Nat.le_of_ble_eq_true rfl)⟩) (zPreV hh hK hP1 hD1 [0, 1] (by decide) rfl (ci := 0) rfl 0 rfl) rfl rfl hl.1 rfl (lv_room (Nat.le_of_ble_eq_true rfl)) d_CA_feed_45 ⟨(Nat.le_of_ble_eq_true rfl), (Nat.le_of_ble_eq_true rfl)⟩) (fun _ H2 locs2 _ hP2 hD2 hS2 => ?_)
  clear hP1 hD1 hS1
  replace hP2 : va_P D vwCl [(h0, .inr (0, ((fs.set 1 (.int (nI (k + 4)))).set 1 (.int (nI (k + 8)))))), (ta, .inl (tA 2, N, .inl ((four4 (four4 f (k) ba) (k + 4) bb))))] _ := hP2
  replace hD2 : va_D A [(h0, .inr (0, ((fs.set 1 (.int (nI (k + 4)))).set 1 (.int (nI (k + 8)))))), (ta, .inl (tA 2, N, .inl ((four4 (four4 f (k) ba) (k + 4) bb))))] := hD2
  refine lv_aload_n hx hb d_CA_feed_48 rfl (lv_at hl 0 rfl) ?_
  refine lv_iload_n hx hb d_CA_feed_49 rfl (lv_at hl 3 rfl) ?_
  refine zCallv (wc := [(h0, .inr (0, ((fs.set 1 (.int (nI (k + 4)))).set 1 (.int (nI (k + 8)))))), (ta, .inl (tA 2, N, .inl ((four4 (four4 f (k) ba) (k + 4) bb))))]) (wr := []) hP2 hD2 hS2 hA [0, 1] [] rfl rfl (by decide) (by decide) (va_runV (As := [.int bc]) (rest := []) ⟨hx, hb, hml, hown, hg⟩ (c_CA_putFour l D tA _ h0 ta N (k + 8) ((fs.set 1 (.int (nI (k + 4)))).set 1 (.int (nI (k + 8)))) (four4 (four4 f (k) ba) (k + 4) bb) bc (by omega) hN (zSetN (by decide) (zSetN (by decide) htp)) (zSetS (zSetS hln))) (zV 1 hg k4_16 k4_18 ks_CA_putFour k1_1 k4_19 rfl rfl (by decide +kernel) ⟨(Nat.le_of_ble_eq_true rfl), (Nat.le_of_ble_eq_true rfl)⟩) (zPreV hh hK hP2 hD2 [0, 1] (by decide) rfl (ci := 0) rfl 0 rfl) rfl rfl hl.1 rfl (lv_room (Nat.le_of_ble_eq_true rfl)) d_CA_feed_50 ⟨(Nat.le_of_ble_eq_true rfl), (Nat.le_of_ble_eq_true rfl)⟩) (fun _ H3 locs3 _ hP3 hD3 hS3 => ?_)
  clear hP2 hD2 hS2
  replace hP3 : va_P D vwCl [(h0, .inr (0, (((fs.set 1 (.int (nI (k + 4)))).set 1 (.int (nI (k + 8)))).set 1 (.int (nI (k + 12)))))), (ta, .inl (tA 2, N, .inl ((four4 (four4 (four4 f (k) ba) (k + 4) bb) (k + 8) bc))))] _ := hP3
  replace hD3 : va_D A [(h0, .inr (0, (((fs.set 1 (.int (nI (k + 4)))).set 1 (.int (nI (k + 8)))).set 1 (.int (nI (k + 12)))))), (ta, .inl (tA 2, N, .inl ((four4 (four4 (four4 f (k) ba) (k + 4) bb) (k + 8) bc))))] := hD3
  refine lv_aload_n hx hb d_CA_feed_53 rfl (lv_at hl 0 rfl) ?_
  refine lv_iload hx hb d_CA_feed_54 (lv_at hl 4 rfl) ?_
  refine zCallv (wc := [(h0, .inr (0, (((fs.set 1 (.int (nI (k + 4)))).set 1 (.int (nI (k + 8)))).set 1 (.int (nI (k + 12)))))), (ta, .inl (tA 2, N, .inl ((four4 (four4 (four4 f (k) ba) (k + 4) bb) (k + 8) bc))))]) (wr := []) hP3 hD3 hS3 hA [0, 1] [] rfl rfl (by decide) (by decide) (va_runV (As := [.int bd]) (rest := []) ⟨hx, hb, hml, hown, hg⟩ (c_CA_putFour l D tA _ h0 ta N (k + 12) (((fs.set 1 (.int (nI (k + 4)))).set 1 (.int (nI (k + 8)))).set 1 (.int (nI (k + 12)))) (four4 (four4 (four4 f (k) ba) (k + 4) bb) (k + 8) bc) bd (by omega) hN (zSetN (by decide) (zSetN (by decide) (zSetN (by decide) htp))) (zSetS (zSetS (zSetS hln)))) (zV 1 hg k4_16 k4_18 ks_CA_putFour k1_1 k4_19 rfl rfl (by decide +kernel) ⟨(Nat.le_of_ble_eq_true rfl), (Nat.le_of_ble_eq_true rfl)⟩) (zPreV hh hK hP3 hD3 [0, 1] (by decide) rfl (ci := 0) rfl 0 rfl) rfl rfl hl.1 rfl (lv_room (Nat.le_of_ble_eq_true rfl)) d_CA_feed_56 ⟨(Nat.le_of_ble_eq_true rfl), (Nat.le_of_ble_eq_true rfl)⟩) (fun _ H4 locs4 _ hP4 hD4 hS4 => ?_)
  clear hP3 hD3 hS3
  replace hP4 : va_P D vwCl [(h0, .inr (0, ((((fs.set 1 (.int (nI (k + 4)))).set 1 (.int (nI (k + 8)))).set 1 (.int (nI (k + 12)))).set 1 (.int (nI (k + 16)))))), (ta, .inl (tA 2, N, .inl ((four4 (four4 (four4 (four4 f (k) ba) (k + 4) bb) (k + 8) bc) (k + 12) bd))))] _ := hP4
  replace hD4 : va_D A [(h0, .inr (0, ((((fs.set 1 (.int (nI (k + 4)))).set 1 (.int (nI (k + 8)))).set 1 (.int (nI (k + 12)))).set 1 (.int (nI (k + 16)))))), (ta, .inl (tA 2, N, .inl ((four4 (four4 (four4 (four4 f (k) ba) (k + 4) bb) (k + 8) bc) (k + 12) bd))))] := hD4
  refine lv_aload_n hx hb d_CA_feed_59 rfl (lv_at hl 0 rfl) ?_
  refine lv_iload hx hb d_CA_feed_60 (lv_at hl 5 rfl) ?_
  refine zCallv (wc := [(h0, .inr (0, ((((fs.set 1 (.int (nI (k + 4)))).set 1 (.int (nI (k + 8)))).set 1 (.int (nI (k + 12)))).set 1 (.int (nI (k + 16)))))), (ta, .inl (tA 2, N, .inl ((four4 (four4 (four4 (four4 f (k) ba) (k + 4) bb) (k + 8) bc) (k + 12) bd))))]) (wr := []) hP4 hD4 hS4 hA [0, 1] [] rfl rfl (by decide) (by decide) (va_runV (As := [.int be]) (rest := []) ⟨hx, hb, hml, hown, hg⟩ (c_CA_putFour l D tA _ h0 ta N (k + 16) ((((fs.set 1 (.int (nI (k + 4)))).set 1 (.int (nI (k + 8)))).set 1 (.int (nI (k + 12)))).set 1 (.int (nI (k + 16)))) (four4 (four4 (four4 (four4 f (k) ba) (k + 4) bb) (k + 8) bc) (k + 12) bd) be (by omega) hN (zSetN (by decide) (zSetN (by decide) (zSetN (by decide) (zSetN (by decide) htp)))) (zSetS (zSetS (zSetS (zSetS hln))))) (zV 1 hg k4_16 k4_18 ks_CA_putFour k1_1 k4_19 rfl rfl (by decide +kernel) ⟨(Nat.le_of_ble_eq_true rfl), (Nat.le_of_ble_eq_true rfl)⟩) (zPreV hh hK hP4 hD4 [0, 1] (by decide) rfl (ci := 0) rfl 0 rfl) rfl rfl hl.1 rfl (lv_room (Nat.le_of_ble_eq_true rfl)) d_CA_feed_62 ⟨(Nat.le_of_ble_eq_true rfl), (Nat.le_of_ble_eq_true rfl)⟩) (fun _ H5 locs5 _ hP5 hD5 hS5 => ?_)
  clear hP4 hD4 hS4
  replace hP5 : va_P D vwCl [(h0, .inr (0, (((((fs.set 1 (.int (nI (k + 4)))).set 1 (.int (nI (k + 8)))).set 1 (.int (nI (k + 12)))).set 1 (.int (nI (k + 16)))).set 1 (.int (nI (k + 20)))))), (ta, .inl (tA 2, N, .inl ((four4 (four4 (four4 (four4 (four4 f (k) ba) (k + 4) bb) (k + 8) bc) (k + 12) bd) (k + 16) be))))] _ := hP5
  replace hD5 : va_D A [(h0, .inr (0, (((((fs.set 1 (.int (nI (k + 4)))).set 1 (.int (nI (k + 8)))).set 1 (.int (nI (k + 12)))).set 1 (.int (nI (k + 16)))).set 1 (.int (nI (k + 20)))))), (ta, .inl (tA 2, N, .inl ((four4 (four4 (four4 (four4 (four4 f (k) ba) (k + 4) bb) (k + 8) bc) (k + 12) bd) (k + 16) be))))] := hD5
  refine lv_aload_n hx hb d_CA_feed_65 rfl (lv_at hl 0 rfl) ?_
  refine va_get (D := D) (ci := 0) (v := .int (nI (k + 20))) (C := R_CA) (T := T_CA) (N := 19) hx hb hg i_CA hown hK hP5 0 rfl rfl 1 (by decide) (hg _ k3_188) (fun _ h9 => h9) (zSetS (zSetS (zSetS (zSetS (zSetS hln))))) d_CA_feed_66 ?_
  exact zIret (post := fun r (_ : Unit) => r = nI (k + 20)) (W1 := fun _ => [(h0, .inr (0, (fs.set 1 (.int (nI (k + 20)))))), (ta, .inl (tA 2, N, .inl ((four4 (four4 (four4 (four4 (four4 f (k) ba) (k + 4) bb) (k + 8) bc) (k + 12) bd) (k + 16) be))))]) hx hb hr hlocks hP5 hD5 hS5 () rfl (by rw [List.set_set, List.set_set, List.set_set, List.set_set]) d_CA_feed_69
