/-! The law's helpers where the class throws. -/
def y_La_end : mY := (({ cls := "ChanceArenaLaw", name := "end", desc := "(LChanceArena;I[J)I" } : Jvm.MethodName), method_3_code, 4, (Option.some Jvm.ClassFile.FieldType.int))
def hs_end : List (Nat × Nat × Nat × Nat) := [(0, 9, 12, 13)]
theorem d_La_end_0 : decode y_La_end.2.1 0 = .ok (.aload_n 2, 1) := by decide +kernel
theorem d_La_end_1 : decode y_La_end.2.1 1 = .ok (.iconst 0, 1) := by decide +kernel
theorem d_La_end_2 : decode y_La_end.2.1 2 = .ok (.aload_n 0, 1) := by decide +kernel
theorem d_La_end_3 : decode y_La_end.2.1 3 = .ok (.iload_n 1, 1) := by decide +kernel
theorem d_La_end_4 : decode y_La_end.2.1 4 = .ok (.invokevirtual 7, 3) := by decide +kernel
theorem d_La_end_7 : decode y_La_end.2.1 7 = .ok (.i2l, 1) := by decide +kernel
theorem d_La_end_8 : decode y_La_end.2.1 8 = .ok (.lastore, 1) := by decide +kernel
theorem d_La_end_9 : decode y_La_end.2.1 9 = .ok (.goto 6, 3) := by decide +kernel
theorem d_La_end_12 : decode y_La_end.2.1 12 = .ok (.astore_n 3, 1) := by decide +kernel
theorem d_La_end_13 : decode y_La_end.2.1 13 = .ok (.iconst 1, 1) := by decide +kernel
theorem d_La_end_14 : decode y_La_end.2.1 14 = .ok (.ireturn, 1) := by decide +kernel
theorem d_La_end_15 : decode y_La_end.2.1 15 = .ok (.iconst 0, 1) := by decide +kernel
theorem d_La_end_16 : decode y_La_end.2.1 16 = .ok (.ireturn, 1) := by decide +kernel
theorem kh_7_176 : (Jvm.Cond.methodLink "ChanceArenaLaw" (7 : Nat) ({ cls := "ChanceArena", name := "end", desc := "(I)I" } : Jvm.MethodName)) ∈ lw_R := zR (zk_7 _ (List.mem_of_getElem? (i := 188) rfl)) rfl
theorem kh_7_177 : (Jvm.Cond.instanceMethod ({ cls := "ChanceArena", name := "end", desc := "(I)I" } : Jvm.MethodName)) ∈ lw_R := zR (zk_7 _ (List.mem_of_getElem? (i := 189) rfl)) rfl
theorem kh_7_178 : (Jvm.Cond.selects "ChanceArena" ({ cls := "ChanceArena", name := "end", desc := "(I)I" } : Jvm.MethodName) ({ cls := "ChanceArena", name := "end", desc := "(I)I" } : Jvm.MethodName)) ∈ lw_R := zR (zk_7 _ (List.mem_of_getElem? (i := 190) rfl)) rfl
theorem kh_7_179 : (Jvm.Cond.code ({ cls := "ChanceArena", name := "end", desc := "(I)I" } : Jvm.MethodName) prog_1_method_5_code (2 : Nat) (Option.some Jvm.ClassFile.FieldType.int)) ∈ lw_R := zR (zk_7 _ (List.mem_of_getElem? (i := 191) rfl)) rfl
theorem kh_7_175 : (Jvm.Cond.classLink "ChanceArenaLaw" (13 : Nat) "java/lang/IllegalArgumentException") ∈ lw_R := zR (zk_7 _ (List.mem_of_getElem? (i := 187) rfl)) rfl
theorem kh_6_8 : (Jvm.Cond.castable "java/lang/IllegalArgumentException" "java/lang/IllegalArgumentException") ∈ lw_R := zR (zk_6 _ (List.mem_of_getElem? (i := 20) rfl)) rfl
theorem x_La_end {G : mG} {M : mM} {d t o : Nat} {l l1 l2 : Int} (kt : mK M t = 1) (hM : mCt G y_CA_end d [vr t, vi l] M "java/lang/IllegalArgumentException") : mClW G y_La_end hs_end (d + 1) [vr t, vi l, vr o] M (some (vi 1)) (mNew M 50 0 6) := by
  refine mClW.first (y2 := y_CA_end) (As := [vi l]) (st := [vi 0, vr o]) (pc := 4) (c := 0) (n := 1) (k := 3) (v := 1) (L := [vr t, vi l, vr o, vd]) rfl rfl rfl kh_7_176 kh_7_177 kh_7_178 k1_1 kh_7_179 ⟨by decide, by decide, by decide +kernel⟩ (by decide) rfl (Nat.le_of_ble_eq_true rfl) d_La_end_4 kt rfl (Nat.le_of_ble_eq_true rfl) rfl rfl hM ?_ ⟨0, 9, 12, 13⟩ [] rfl (by decide) (by decide) kh_7_175 kh_6_8 d_La_end_12 rfl (by decide) d_La_end_13 d_La_end_14
  refine go_aload_n d_La_end_0 rfl rfl ?_
  refine go_iconst d_La_end_1 ?_
  refine go_aload_n d_La_end_2 rfl rfl ?_
  refine go_iload_n d_La_end_3 rfl rfl ?_
  exact mGo.refl
def y_La_explore : mY := (({ cls := "ChanceArenaLaw", name := "explore", desc := "(LChanceArena;[J)I" } : Jvm.MethodName), method_4_code, 3, (Option.some Jvm.ClassFile.FieldType.int))
def hs_explore : List (Nat × Nat × Nat × Nat) := [(0, 8, 11, 19)]
theorem d_La_explore_0 : decode y_La_explore.2.1 0 = .ok (.aload_n 1, 1) := by decide +kernel
theorem d_La_explore_1 : decode y_La_explore.2.1 1 = .ok (.iconst 0, 1) := by decide +kernel
theorem d_La_explore_2 : decode y_La_explore.2.1 2 = .ok (.aload_n 0, 1) := by decide +kernel
theorem d_La_explore_3 : decode y_La_explore.2.1 3 = .ok (.invokevirtual 15, 3) := by decide +kernel
theorem d_La_explore_6 : decode y_La_explore.2.1 6 = .ok (.i2l, 1) := by decide +kernel
theorem d_La_explore_7 : decode y_La_explore.2.1 7 = .ok (.lastore, 1) := by decide +kernel
theorem d_La_explore_8 : decode y_La_explore.2.1 8 = .ok (.goto 6, 3) := by decide +kernel
theorem d_La_explore_11 : decode y_La_explore.2.1 11 = .ok (.astore_n 2, 1) := by decide +kernel
theorem d_La_explore_12 : decode y_La_explore.2.1 12 = .ok (.iconst 1, 1) := by decide +kernel
theorem d_La_explore_13 : decode y_La_explore.2.1 13 = .ok (.ireturn, 1) := by decide +kernel
theorem d_La_explore_14 : decode y_La_explore.2.1 14 = .ok (.iconst 0, 1) := by decide +kernel
theorem d_La_explore_15 : decode y_La_explore.2.1 15 = .ok (.ireturn, 1) := by decide +kernel
theorem kh_7_195 : (Jvm.Cond.methodLink "ChanceArenaLaw" (15 : Nat) ({ cls := "ChanceArena", name := "explore", desc := "()I" } : Jvm.MethodName)) ∈ lw_R := zR (zk_7 _ (List.mem_of_getElem? (i := 207) rfl)) rfl
theorem kh_7_196 : (Jvm.Cond.instanceMethod ({ cls := "ChanceArena", name := "explore", desc := "()I" } : Jvm.MethodName)) ∈ lw_R := zR (zk_7 _ (List.mem_of_getElem? (i := 208) rfl)) rfl
theorem kh_7_197 : (Jvm.Cond.selects "ChanceArena" ({ cls := "ChanceArena", name := "explore", desc := "()I" } : Jvm.MethodName) ({ cls := "ChanceArena", name := "explore", desc := "()I" } : Jvm.MethodName)) ∈ lw_R := zR (zk_7 _ (List.mem_of_getElem? (i := 209) rfl)) rfl
theorem kh_7_198 : (Jvm.Cond.code ({ cls := "ChanceArena", name := "explore", desc := "()I" } : Jvm.MethodName) prog_1_method_10_code (2 : Nat) (Option.some Jvm.ClassFile.FieldType.int)) ∈ lw_R := zR (zk_7 _ (List.mem_of_getElem? (i := 210) rfl)) rfl
theorem kh_7_194 : (Jvm.Cond.classLink "ChanceArenaLaw" (19 : Nat) "java/lang/IllegalStateException") ∈ lw_R := zR (zk_7 _ (List.mem_of_getElem? (i := 206) rfl)) rfl
theorem kh_7_201 : (Jvm.Cond.castable "java/lang/IllegalStateException" "java/lang/IllegalStateException") ∈ lw_R := zR (zk_7 _ (List.mem_of_getElem? (i := 213) rfl)) rfl
theorem x_La_explore {G : mG} {M : mM} {d t o : Nat} {l l1 l2 : Int} (kt : mK M t = 1) (hM : mCt G y_CA_explore d [vr t] M "java/lang/IllegalStateException") : mClW G y_La_explore hs_explore (d + 1) [vr t, vr o] M (some (vi 1)) (mNew M 50 0 6) := by
  refine mClW.first (y2 := y_CA_explore) (As := []) (st := [vi 0, vr o]) (pc := 3) (c := 0) (n := 0) (k := 2) (v := 1) (L := [vr t, vr o, vd]) rfl rfl rfl kh_7_195 kh_7_196 kh_7_197 k1_1 kh_7_198 ⟨by decide, by decide, by decide +kernel⟩ (by decide) rfl (Nat.le_of_ble_eq_true rfl) d_La_explore_3 kt rfl (Nat.le_of_ble_eq_true rfl) rfl rfl hM ?_ ⟨0, 8, 11, 19⟩ [] rfl (by decide) (by decide) kh_7_194 kh_7_201 d_La_explore_11 rfl (by decide) d_La_explore_12 d_La_explore_13
  refine go_aload_n d_La_explore_0 rfl rfl ?_
  refine go_iconst d_La_explore_1 ?_
  refine go_aload_n d_La_explore_2 rfl rfl ?_
  exact mGo.refl
def y_La_variable : mY := (({ cls := "ChanceArenaLaw", name := "variable", desc := "(LChanceArena;II[J)I" } : Jvm.MethodName), method_5_code, 5, (Option.some Jvm.ClassFile.FieldType.int))
def hs_variable : List (Nat × Nat × Nat × Nat) := [(0, 10, 13, 25)]
theorem d_La_variable_0 : decode y_La_variable.2.1 0 = .ok (.aload_n 3, 1) := by decide +kernel
theorem d_La_variable_1 : decode y_La_variable.2.1 1 = .ok (.iconst 0, 1) := by decide +kernel
theorem d_La_variable_2 : decode y_La_variable.2.1 2 = .ok (.aload_n 0, 1) := by decide +kernel
theorem d_La_variable_3 : decode y_La_variable.2.1 3 = .ok (.iload_n 1, 1) := by decide +kernel
theorem d_La_variable_4 : decode y_La_variable.2.1 4 = .ok (.iload_n 2, 1) := by decide +kernel
theorem d_La_variable_5 : decode y_La_variable.2.1 5 = .ok (.invokevirtual 21, 3) := by decide +kernel
theorem d_La_variable_8 : decode y_La_variable.2.1 8 = .ok (.i2l, 1) := by decide +kernel
theorem d_La_variable_9 : decode y_La_variable.2.1 9 = .ok (.lastore, 1) := by decide +kernel
theorem d_La_variable_10 : decode y_La_variable.2.1 10 = .ok (.goto 7, 3) := by decide +kernel
theorem d_La_variable_13 : decode y_La_variable.2.1 13 = .ok (.astore 4, 2) := by decide +kernel
theorem d_La_variable_15 : decode y_La_variable.2.1 15 = .ok (.iconst 1, 1) := by decide +kernel
theorem d_La_variable_16 : decode y_La_variable.2.1 16 = .ok (.ireturn, 1) := by decide +kernel
theorem d_La_variable_17 : decode y_La_variable.2.1 17 = .ok (.iconst 0, 1) := by decide +kernel
theorem d_La_variable_18 : decode y_La_variable.2.1 18 = .ok (.ireturn, 1) := by decide +kernel
theorem kh_8_31 : (Jvm.Cond.methodLink "ChanceArenaLaw" (21 : Nat) ({ cls := "ChanceArena", name := "variable", desc := "(II)I" } : Jvm.MethodName)) ∈ lw_R := zR (zk_8 _ (List.mem_of_getElem? (i := 43) rfl)) rfl
theorem kh_8_32 : (Jvm.Cond.instanceMethod ({ cls := "ChanceArena", name := "variable", desc := "(II)I" } : Jvm.MethodName)) ∈ lw_R := zR (zk_8 _ (List.mem_of_getElem? (i := 44) rfl)) rfl
theorem kh_8_33 : (Jvm.Cond.selects "ChanceArena" ({ cls := "ChanceArena", name := "variable", desc := "(II)I" } : Jvm.MethodName) ({ cls := "ChanceArena", name := "variable", desc := "(II)I" } : Jvm.MethodName)) ∈ lw_R := zR (zk_8 _ (List.mem_of_getElem? (i := 45) rfl)) rfl
theorem kh_8_34 : (Jvm.Cond.code ({ cls := "ChanceArena", name := "variable", desc := "(II)I" } : Jvm.MethodName) prog_1_method_13_code (3 : Nat) (Option.some Jvm.ClassFile.FieldType.int)) ∈ lw_R := zR (zk_8 _ (List.mem_of_getElem? (i := 46) rfl)) rfl
theorem kh_8_30 : (Jvm.Cond.classLink "ChanceArenaLaw" (25 : Nat) "java/lang/IndexOutOfBoundsException") ∈ lw_R := zR (zk_8 _ (List.mem_of_getElem? (i := 42) rfl)) rfl
theorem kh_8_37 : (Jvm.Cond.castable "java/lang/IndexOutOfBoundsException" "java/lang/IndexOutOfBoundsException") ∈ lw_R := zR (zk_8 _ (List.mem_of_getElem? (i := 49) rfl)) rfl
theorem x_La_variable {G : mG} {M : mM} {d t o : Nat} {l l1 l2 : Int} (kt : mK M t = 1) (hM : mCt G y_CA_variable d [vr t, vi l1, vi l2] M "java/lang/IndexOutOfBoundsException") : mClW G y_La_variable hs_variable (d + 1) [vr t, vi l1, vi l2, vr o] M (some (vi 1)) (mNew M 50 0 6) := by
  refine mClW.firstF (k0 := 0) (y2 := y_CA_variable) (As := [vi l1, vi l2]) (st := [vi 0, vr o]) (pc := 5) (c := 0) (n := 2) (k := 4) (v := 1) (L := [vr t, vi l1, vi l2, vr o, vd]) rfl rfl rfl kh_8_31 kh_8_32 kh_8_33 k1_1 kh_8_34 ⟨by decide, by decide, by decide +kernel⟩ (by decide) rfl (Nat.le_of_ble_eq_true rfl) d_La_variable_5 kt rfl (Nat.le_of_ble_eq_true rfl) rfl rfl hM ?_ ⟨0, 10, 13, 25⟩ [] rfl (by decide) (by decide) kh_8_30 kh_8_37 d_La_variable_13 (by decide) d_La_variable_15 d_La_variable_16
  refine go_aload_n d_La_variable_0 rfl rfl ?_
  refine go_iconst d_La_variable_1 ?_
  refine go_aload_n d_La_variable_2 rfl rfl ?_
  refine go_iload_n d_La_variable_3 rfl rfl ?_
  refine go_iload_n d_La_variable_4 rfl rfl ?_
  exact mGo.refl
def y_La_solve : mY := (({ cls := "ChanceArenaLaw", name := "solve", desc := "(LChanceArena;[J)I" } : Jvm.MethodName), method_6_code, 3, (Option.some Jvm.ClassFile.FieldType.int))
def hs_solve : List (Nat × Nat × Nat × Nat) := [(0, 8, 11, 19)]
theorem d_La_solve_0 : decode y_La_solve.2.1 0 = .ok (.aload_n 1, 1) := by decide +kernel
theorem d_La_solve_1 : decode y_La_solve.2.1 1 = .ok (.iconst 0, 1) := by decide +kernel
theorem d_La_solve_2 : decode y_La_solve.2.1 2 = .ok (.aload_n 0, 1) := by decide +kernel
theorem d_La_solve_3 : decode y_La_solve.2.1 3 = .ok (.invokevirtual 27, 3) := by decide +kernel
theorem d_La_solve_6 : decode y_La_solve.2.1 6 = .ok (.i2l, 1) := by decide +kernel
theorem d_La_solve_7 : decode y_La_solve.2.1 7 = .ok (.lastore, 1) := by decide +kernel
theorem d_La_solve_8 : decode y_La_solve.2.1 8 = .ok (.goto 6, 3) := by decide +kernel
theorem d_La_solve_11 : decode y_La_solve.2.1 11 = .ok (.astore_n 2, 1) := by decide +kernel
theorem d_La_solve_12 : decode y_La_solve.2.1 12 = .ok (.iconst 1, 1) := by decide +kernel
theorem d_La_solve_13 : decode y_La_solve.2.1 13 = .ok (.ireturn, 1) := by decide +kernel
theorem d_La_solve_14 : decode y_La_solve.2.1 14 = .ok (.iconst 0, 1) := by decide +kernel
theorem d_La_solve_15 : decode y_La_solve.2.1 15 = .ok (.ireturn, 1) := by decide +kernel
theorem kh_8_53 : (Jvm.Cond.methodLink "ChanceArenaLaw" (27 : Nat) ({ cls := "ChanceArena", name := "solve", desc := "()I" } : Jvm.MethodName)) ∈ lw_R := zR (zk_8 _ (List.mem_of_getElem? (i := 65) rfl)) rfl
theorem kh_8_54 : (Jvm.Cond.instanceMethod ({ cls := "ChanceArena", name := "solve", desc := "()I" } : Jvm.MethodName)) ∈ lw_R := zR (zk_8 _ (List.mem_of_getElem? (i := 66) rfl)) rfl
theorem kh_8_55 : (Jvm.Cond.selects "ChanceArena" ({ cls := "ChanceArena", name := "solve", desc := "()I" } : Jvm.MethodName) ({ cls := "ChanceArena", name := "solve", desc := "()I" } : Jvm.MethodName)) ∈ lw_R := zR (zk_8 _ (List.mem_of_getElem? (i := 67) rfl)) rfl
theorem kh_8_56 : (Jvm.Cond.code ({ cls := "ChanceArena", name := "solve", desc := "()I" } : Jvm.MethodName) prog_1_method_19_code (2 : Nat) (Option.some Jvm.ClassFile.FieldType.int)) ∈ lw_R := zR (zk_8 _ (List.mem_of_getElem? (i := 68) rfl)) rfl
theorem x_La_solve {G : mG} {M : mM} {d t o : Nat} {l l1 l2 : Int} (kt : mK M t = 1) (hM : mCt G y_CA_solve d [vr t] M "java/lang/IllegalStateException") : mClW G y_La_solve hs_solve (d + 1) [vr t, vr o] M (some (vi 1)) (mNew M 50 0 6) := by
  refine mClW.first (y2 := y_CA_solve) (As := []) (st := [vi 0, vr o]) (pc := 3) (c := 0) (n := 0) (k := 2) (v := 1) (L := [vr t, vr o, vd]) rfl rfl rfl kh_8_53 kh_8_54 kh_8_55 k1_1 kh_8_56 ⟨by decide, by decide, by decide +kernel⟩ (by decide) rfl (Nat.le_of_ble_eq_true rfl) d_La_solve_3 kt rfl (Nat.le_of_ble_eq_true rfl) rfl rfl hM ?_ ⟨0, 8, 11, 19⟩ [] rfl (by decide) (by decide) kh_7_194 kh_7_201 d_La_solve_11 rfl (by decide) d_La_solve_12 d_La_solve_13
  refine go_aload_n d_La_solve_0 rfl rfl ?_
  refine go_iconst d_La_solve_1 ?_
  refine go_aload_n d_La_solve_2 rfl rfl ?_
  exact mGo.refl
def y_La_within : mY := (({ cls := "ChanceArenaLaw", name := "within", desc := "(LChanceArena;I[J)I" } : Jvm.MethodName), method_7_code, 4, (Option.some Jvm.ClassFile.FieldType.int))
def hs_within : List (Nat × Nat × Nat × Nat) := [(0, 9, 12, 13), (0, 9, 15, 19)]
theorem d_La_within_0 : decode y_La_within.2.1 0 = .ok (.aload_n 2, 1) := by decide +kernel
theorem d_La_within_1 : decode y_La_within.2.1 1 = .ok (.iconst 0, 1) := by decide +kernel
theorem d_La_within_2 : decode y_La_within.2.1 2 = .ok (.aload_n 0, 1) := by decide +kernel
theorem d_La_within_3 : decode y_La_within.2.1 3 = .ok (.iload_n 1, 1) := by decide +kernel
theorem d_La_within_4 : decode y_La_within.2.1 4 = .ok (.invokevirtual 30, 3) := by decide +kernel
theorem d_La_within_7 : decode y_La_within.2.1 7 = .ok (.i2l, 1) := by decide +kernel
theorem d_La_within_8 : decode y_La_within.2.1 8 = .ok (.lastore, 1) := by decide +kernel
theorem d_La_within_9 : decode y_La_within.2.1 9 = .ok (.goto 9, 3) := by decide +kernel
theorem d_La_within_12 : decode y_La_within.2.1 12 = .ok (.astore_n 3, 1) := by decide +kernel
theorem d_La_within_13 : decode y_La_within.2.1 13 = .ok (.iconst 1, 1) := by decide +kernel
theorem d_La_within_14 : decode y_La_within.2.1 14 = .ok (.ireturn, 1) := by decide +kernel
theorem d_La_within_15 : decode y_La_within.2.1 15 = .ok (.astore_n 3, 1) := by decide +kernel
theorem d_La_within_16 : decode y_La_within.2.1 16 = .ok (.iconst 2, 1) := by decide +kernel
theorem d_La_within_17 : decode y_La_within.2.1 17 = .ok (.ireturn, 1) := by decide +kernel
theorem d_La_within_18 : decode y_La_within.2.1 18 = .ok (.iconst 0, 1) := by decide +kernel
theorem d_La_within_19 : decode y_La_within.2.1 19 = .ok (.ireturn, 1) := by decide +kernel
theorem kh_8_160 : (Jvm.Cond.methodLink "ChanceArenaLaw" (30 : Nat) ({ cls := "ChanceArena", name := "within", desc := "(I)I" } : Jvm.MethodName)) ∈ lw_R := zR (zk_8 _ (List.mem_of_getElem? (i := 195) rfl)) rfl
theorem kh_8_161 : (Jvm.Cond.instanceMethod ({ cls := "ChanceArena", name := "within", desc := "(I)I" } : Jvm.MethodName)) ∈ lw_R := zR (zk_8 _ (List.mem_of_getElem? (i := 196) rfl)) rfl
theorem kh_8_162 : (Jvm.Cond.selects "ChanceArena" ({ cls := "ChanceArena", name := "within", desc := "(I)I" } : Jvm.MethodName) ({ cls := "ChanceArena", name := "within", desc := "(I)I" } : Jvm.MethodName)) ∈ lw_R := zR (zk_8 _ (List.mem_of_getElem? (i := 197) rfl)) rfl
theorem kh_8_163 : (Jvm.Cond.code ({ cls := "ChanceArena", name := "within", desc := "(I)I" } : Jvm.MethodName) prog_1_method_20_code (4 : Nat) (Option.some Jvm.ClassFile.FieldType.int)) ∈ lw_R := zR (zk_8 _ (List.mem_of_getElem? (i := 198) rfl)) rfl
theorem x_La_within1 {G : mG} {M : mM} {d t o : Nat} {l l1 l2 : Int} (kt : mK M t = 1) (hM : mCt G y_CA_within d [vr t, vi l] M "java/lang/IllegalArgumentException") : mClW G y_La_within hs_within (d + 1) [vr t, vi l, vr o] M (some (vi 1)) (mNew M 50 0 6) := by
  refine mClW.first (y2 := y_CA_within) (As := [vi l]) (st := [vi 0, vr o]) (pc := 4) (c := 0) (n := 1) (k := 3) (v := 1) (L := [vr t, vi l, vr o, vd]) rfl rfl rfl kh_8_160 kh_8_161 kh_8_162 k1_1 kh_8_163 ⟨by decide, by decide, by decide +kernel⟩ (by decide) rfl (Nat.le_of_ble_eq_true rfl) d_La_within_4 kt rfl (Nat.le_of_ble_eq_true rfl) rfl rfl hM ?_ ⟨0, 9, 12, 13⟩ [⟨0, 9, 15, 19⟩] rfl (by decide) (by decide) kh_7_175 kh_6_8 d_La_within_12 rfl (by decide) d_La_within_13 d_La_within_14
  refine go_aload_n d_La_within_0 rfl rfl ?_
  refine go_iconst d_La_within_1 ?_
  refine go_aload_n d_La_within_2 rfl rfl ?_
  refine go_iload_n d_La_within_3 rfl rfl ?_
  exact mGo.refl
theorem x_La_within2 {G : mG} {M : mM} {d t o : Nat} {l l1 l2 : Int} (kt : mK M t = 1) (hNo : va_Nc "java/lang/IllegalStateException" "java/lang/IllegalArgumentException" (gS G)) (hM : mCt G y_CA_within d [vr t, vi l] M "java/lang/IllegalStateException") : mClW G y_La_within hs_within (d + 1) [vr t, vi l, vr o] M (some (vi 2)) (mNew M 50 0 6) := by
  refine mClW.second (y2 := y_CA_within) (As := [vi l]) (st := [vi 0, vr o]) (pc := 4) (c := 0) (n := 1) (k := 3) (v := 2) (L := [vr t, vi l, vr o, vd]) rfl rfl rfl kh_8_160 kh_8_161 kh_8_162 k1_1 kh_8_163 ⟨by decide, by decide, by decide +kernel⟩ (by decide) rfl (Nat.le_of_ble_eq_true rfl) d_La_within_4 kt rfl (Nat.le_of_ble_eq_true rfl) rfl rfl hM ?_ (cls1 := "java/lang/IllegalArgumentException") ⟨0, 9, 12, 13⟩ ⟨0, 9, 15, 19⟩ [] rfl (by decide) (by decide) (by decide) (by decide) kh_7_175 hNo kh_7_194 kh_7_201 d_La_within_15 rfl (by decide) d_La_within_16 d_La_within_17
  refine go_aload_n d_La_within_0 rfl rfl ?_
  refine go_iconst d_La_within_1 ?_
  refine go_aload_n d_La_within_2 rfl rfl ?_
  refine go_iload_n d_La_within_3 rfl rfl ?_
  exact mGo.refl
def y_La_choose : mY := (({ cls := "ChanceArenaLaw", name := "choose", desc := "(LChanceArena;II)I" } : Jvm.MethodName), method_8_code, 4, (Option.some Jvm.ClassFile.FieldType.int))
def hs_choose : List (Nat × Nat × Nat × Nat) := [(0, 6, 9, 25)]
theorem d_La_choose_0 : decode y_La_choose.2.1 0 = .ok (.aload_n 0, 1) := by decide +kernel
theorem d_La_choose_1 : decode y_La_choose.2.1 1 = .ok (.iload_n 1, 1) := by decide +kernel
theorem d_La_choose_2 : decode y_La_choose.2.1 2 = .ok (.iload_n 2, 1) := by decide +kernel
theorem d_La_choose_3 : decode y_La_choose.2.1 3 = .ok (.invokevirtual 33, 3) := by decide +kernel
theorem d_La_choose_6 : decode y_La_choose.2.1 6 = .ok (.goto 6, 3) := by decide +kernel
theorem d_La_choose_9 : decode y_La_choose.2.1 9 = .ok (.astore_n 3, 1) := by decide +kernel
theorem d_La_choose_10 : decode y_La_choose.2.1 10 = .ok (.iconst 1, 1) := by decide +kernel
theorem d_La_choose_11 : decode y_La_choose.2.1 11 = .ok (.ireturn, 1) := by decide +kernel
theorem d_La_choose_12 : decode y_La_choose.2.1 12 = .ok (.iconst 0, 1) := by decide +kernel
theorem d_La_choose_13 : decode y_La_choose.2.1 13 = .ok (.ireturn, 1) := by decide +kernel
theorem kh_8_180 : (Jvm.Cond.methodLink "ChanceArenaLaw" (33 : Nat) ({ cls := "ChanceArena", name := "choose", desc := "(II)V" } : Jvm.MethodName)) ∈ lw_R := zR (zk_8 _ (List.mem_of_getElem? (i := 215) rfl)) rfl
theorem kh_8_181 : (Jvm.Cond.instanceMethod ({ cls := "ChanceArena", name := "choose", desc := "(II)V" } : Jvm.MethodName)) ∈ lw_R := zR (zk_8 _ (List.mem_of_getElem? (i := 216) rfl)) rfl
theorem kh_8_182 : (Jvm.Cond.selects "ChanceArena" ({ cls := "ChanceArena", name := "choose", desc := "(II)V" } : Jvm.MethodName) ({ cls := "ChanceArena", name := "choose", desc := "(II)V" } : Jvm.MethodName)) ∈ lw_R := zR (zk_8 _ (List.mem_of_getElem? (i := 217) rfl)) rfl
theorem kh_8_183 : (Jvm.Cond.code ({ cls := "ChanceArena", name := "choose", desc := "(II)V" } : Jvm.MethodName) prog_1_method_21_code (3 : Nat) (Option.none : Option Jvm.ClassFile.FieldType)) ∈ lw_R := zR (zk_8 _ (List.mem_of_getElem? (i := 218) rfl)) rfl
theorem x_La_choose {G : mG} {M : mM} {d t o : Nat} {l l1 l2 : Int} (kt : mK M t = 1) (hM : mCt G y_CA_choose d [vr t, vi l1, vi l2] M "java/lang/IndexOutOfBoundsException") : mClW G y_La_choose hs_choose (d + 1) [vr t, vi l1, vi l2] M (some (vi 1)) (mNew M 50 0 6) := by
  refine mClW.first (y2 := y_CA_choose) (As := [vi l1, vi l2]) (st := []) (pc := 3) (c := 0) (n := 2) (k := 3) (v := 1) (L := [vr t, vi l1, vi l2, vd]) rfl rfl rfl kh_8_180 kh_8_181 kh_8_182 k1_1 kh_8_183 ⟨by decide, by decide, by decide +kernel⟩ (by decide) rfl (Nat.le_of_ble_eq_true rfl) d_La_choose_3 kt rfl (Nat.le_of_ble_eq_true rfl) rfl rfl hM ?_ ⟨0, 6, 9, 25⟩ [] rfl (by decide) (by decide) kh_8_30 kh_8_37 d_La_choose_9 rfl (by decide) d_La_choose_10 d_La_choose_11
  refine go_aload_n d_La_choose_0 rfl rfl ?_
  refine go_iload_n d_La_choose_1 rfl rfl ?_
  refine go_iload_n d_La_choose_2 rfl rfl ?_
  exact mGo.refl
def y_La_adopt : mY := (({ cls := "ChanceArenaLaw", name := "adopt", desc := "(LChanceArena;)I" } : Jvm.MethodName), method_9_code, 2, (Option.some Jvm.ClassFile.FieldType.int))
def hs_adopt : List (Nat × Nat × Nat × Nat) := [(0, 4, 7, 19)]
theorem d_La_adopt_0 : decode y_La_adopt.2.1 0 = .ok (.aload_n 0, 1) := by decide +kernel
theorem d_La_adopt_1 : decode y_La_adopt.2.1 1 = .ok (.invokevirtual 37, 3) := by decide +kernel
theorem d_La_adopt_4 : decode y_La_adopt.2.1 4 = .ok (.goto 6, 3) := by decide +kernel
theorem d_La_adopt_7 : decode y_La_adopt.2.1 7 = .ok (.astore_n 1, 1) := by decide +kernel
theorem d_La_adopt_8 : decode y_La_adopt.2.1 8 = .ok (.iconst 1, 1) := by decide +kernel
theorem d_La_adopt_9 : decode y_La_adopt.2.1 9 = .ok (.ireturn, 1) := by decide +kernel
theorem d_La_adopt_10 : decode y_La_adopt.2.1 10 = .ok (.iconst 0, 1) := by decide +kernel
theorem d_La_adopt_11 : decode y_La_adopt.2.1 11 = .ok (.ireturn, 1) := by decide +kernel
theorem kh_8_187 : (Jvm.Cond.methodLink "ChanceArenaLaw" (37 : Nat) ({ cls := "ChanceArena", name := "adopt", desc := "()V" } : Jvm.MethodName)) ∈ lw_R := zR (zk_8 _ (List.mem_of_getElem? (i := 222) rfl)) rfl
theorem kh_8_188 : (Jvm.Cond.instanceMethod ({ cls := "ChanceArena", name := "adopt", desc := "()V" } : Jvm.MethodName)) ∈ lw_R := zR (zk_8 _ (List.mem_of_getElem? (i := 223) rfl)) rfl
theorem kh_8_189 : (Jvm.Cond.selects "ChanceArena" ({ cls := "ChanceArena", name := "adopt", desc := "()V" } : Jvm.MethodName) ({ cls := "ChanceArena", name := "adopt", desc := "()V" } : Jvm.MethodName)) ∈ lw_R := zR (zk_8 _ (List.mem_of_getElem? (i := 224) rfl)) rfl
theorem kh_8_190 : (Jvm.Cond.code ({ cls := "ChanceArena", name := "adopt", desc := "()V" } : Jvm.MethodName) prog_1_method_22_code (2 : Nat) (Option.none : Option Jvm.ClassFile.FieldType)) ∈ lw_R := zR (zk_8 _ (List.mem_of_getElem? (i := 225) rfl)) rfl
theorem x_La_adopt {G : mG} {M : mM} {d t o : Nat} {l l1 l2 : Int} (kt : mK M t = 1) (hM : mCt G y_CA_adopt d [vr t] M "java/lang/IllegalStateException") : mClW G y_La_adopt hs_adopt (d + 1) [vr t] M (some (vi 1)) (mNew M 50 0 6) := by
  refine mClW.first (y2 := y_CA_adopt) (As := []) (st := []) (pc := 1) (c := 0) (n := 0) (k := 1) (v := 1) (L := [vr t, vd]) rfl rfl rfl kh_8_187 kh_8_188 kh_8_189 k1_1 kh_8_190 ⟨by decide, by decide, by decide +kernel⟩ (by decide) rfl (Nat.le_of_ble_eq_true rfl) d_La_adopt_1 kt rfl (Nat.le_of_ble_eq_true rfl) rfl rfl hM ?_ ⟨0, 4, 7, 19⟩ [] rfl (by decide) (by decide) kh_7_194 kh_7_201 d_La_adopt_7 rfl (by decide) d_La_adopt_8 d_La_adopt_9
  refine go_aload_n d_La_adopt_0 rfl rfl ?_
  exact mGo.refl
def y_La_judge : mY := (({ cls := "ChanceArenaLaw", name := "judge", desc := "(LChanceArena;I[J)I" } : Jvm.MethodName), method_10_code, 4, (Option.some Jvm.ClassFile.FieldType.int))
def hs_judge : List (Nat × Nat × Nat × Nat) := [(0, 9, 12, 13), (0, 9, 15, 19)]
theorem d_La_judge_0 : decode y_La_judge.2.1 0 = .ok (.aload_n 2, 1) := by decide +kernel
theorem d_La_judge_1 : decode y_La_judge.2.1 1 = .ok (.iconst 0, 1) := by decide +kernel
theorem d_La_judge_2 : decode y_La_judge.2.1 2 = .ok (.aload_n 0, 1) := by decide +kernel
theorem d_La_judge_3 : decode y_La_judge.2.1 3 = .ok (.iload_n 1, 1) := by decide +kernel
theorem d_La_judge_4 : decode y_La_judge.2.1 4 = .ok (.invokevirtual 40, 3) := by decide +kernel
theorem d_La_judge_7 : decode y_La_judge.2.1 7 = .ok (.i2l, 1) := by decide +kernel
theorem d_La_judge_8 : decode y_La_judge.2.1 8 = .ok (.lastore, 1) := by decide +kernel
theorem d_La_judge_9 : decode y_La_judge.2.1 9 = .ok (.goto 9, 3) := by decide +kernel
theorem d_La_judge_12 : decode y_La_judge.2.1 12 = .ok (.astore_n 3, 1) := by decide +kernel
theorem d_La_judge_13 : decode y_La_judge.2.1 13 = .ok (.iconst 1, 1) := by decide +kernel
theorem d_La_judge_14 : decode y_La_judge.2.1 14 = .ok (.ireturn, 1) := by decide +kernel
theorem d_La_judge_15 : decode y_La_judge.2.1 15 = .ok (.astore_n 3, 1) := by decide +kernel
theorem d_La_judge_16 : decode y_La_judge.2.1 16 = .ok (.iconst 2, 1) := by decide +kernel
theorem d_La_judge_17 : decode y_La_judge.2.1 17 = .ok (.ireturn, 1) := by decide +kernel
theorem d_La_judge_18 : decode y_La_judge.2.1 18 = .ok (.iconst 0, 1) := by decide +kernel
theorem d_La_judge_19 : decode y_La_judge.2.1 19 = .ok (.ireturn, 1) := by decide +kernel
theorem kh_8_195 : (Jvm.Cond.methodLink "ChanceArenaLaw" (40 : Nat) ({ cls := "ChanceArena", name := "judge", desc := "(I)I" } : Jvm.MethodName)) ∈ lw_R := zR (zk_8 _ (List.mem_of_getElem? (i := 230) rfl)) rfl
theorem kh_8_196 : (Jvm.Cond.instanceMethod ({ cls := "ChanceArena", name := "judge", desc := "(I)I" } : Jvm.MethodName)) ∈ lw_R := zR (zk_8 _ (List.mem_of_getElem? (i := 231) rfl)) rfl
theorem kh_8_197 : (Jvm.Cond.selects "ChanceArena" ({ cls := "ChanceArena", name := "judge", desc := "(I)I" } : Jvm.MethodName) ({ cls := "ChanceArena", name := "judge", desc := "(I)I" } : Jvm.MethodName)) ∈ lw_R := zR (zk_8 _ (List.mem_of_getElem? (i := 232) rfl)) rfl
theorem kh_8_198 : (Jvm.Cond.code ({ cls := "ChanceArena", name := "judge", desc := "(I)I" } : Jvm.MethodName) prog_1_method_23_code (2 : Nat) (Option.some Jvm.ClassFile.FieldType.int)) ∈ lw_R := zR (zk_8 _ (List.mem_of_getElem? (i := 233) rfl)) rfl
theorem x_La_judge1 {G : mG} {M : mM} {d t o : Nat} {l l1 l2 : Int} (kt : mK M t = 1) (hM : mCt G y_CA_judge d [vr t, vi l] M "java/lang/IllegalArgumentException") : mClW G y_La_judge hs_judge (d + 1) [vr t, vi l, vr o] M (some (vi 1)) (mNew M 50 0 6) := by
  refine mClW.first (y2 := y_CA_judge) (As := [vi l]) (st := [vi 0, vr o]) (pc := 4) (c := 0) (n := 1) (k := 3) (v := 1) (L := [vr t, vi l, vr o, vd]) rfl rfl rfl kh_8_195 kh_8_196 kh_8_197 k1_1 kh_8_198 ⟨by decide, by decide, by decide +kernel⟩ (by decide) rfl (Nat.le_of_ble_eq_true rfl) d_La_judge_4 kt rfl (Nat.le_of_ble_eq_true rfl) rfl rfl hM ?_ ⟨0, 9, 12, 13⟩ [⟨0, 9, 15, 19⟩] rfl (by decide) (by decide) kh_7_175 kh_6_8 d_La_judge_12 rfl (by decide) d_La_judge_13 d_La_judge_14
  refine go_aload_n d_La_judge_0 rfl rfl ?_
  refine go_iconst d_La_judge_1 ?_
  refine go_aload_n d_La_judge_2 rfl rfl ?_
  refine go_iload_n d_La_judge_3 rfl rfl ?_
  exact mGo.refl
theorem x_La_judge2 {G : mG} {M : mM} {d t o : Nat} {l l1 l2 : Int} (kt : mK M t = 1) (hNo : va_Nc "java/lang/IllegalStateException" "java/lang/IllegalArgumentException" (gS G)) (hM : mCt G y_CA_judge d [vr t, vi l] M "java/lang/IllegalStateException") : mClW G y_La_judge hs_judge (d + 1) [vr t, vi l, vr o] M (some (vi 2)) (mNew M 50 0 6) := by
  refine mClW.second (y2 := y_CA_judge) (As := [vi l]) (st := [vi 0, vr o]) (pc := 4) (c := 0) (n := 1) (k := 3) (v := 2) (L := [vr t, vi l, vr o, vd]) rfl rfl rfl kh_8_195 kh_8_196 kh_8_197 k1_1 kh_8_198 ⟨by decide, by decide, by decide +kernel⟩ (by decide) rfl (Nat.le_of_ble_eq_true rfl) d_La_judge_4 kt rfl (Nat.le_of_ble_eq_true rfl) rfl rfl hM ?_ (cls1 := "java/lang/IllegalArgumentException") ⟨0, 9, 12, 13⟩ ⟨0, 9, 15, 19⟩ [] rfl (by decide) (by decide) (by decide) (by decide) kh_7_175 hNo kh_7_194 kh_7_201 d_La_judge_15 rfl (by decide) d_La_judge_16 d_La_judge_17
  refine go_aload_n d_La_judge_0 rfl rfl ?_
  refine go_iconst d_La_judge_1 ?_
  refine go_aload_n d_La_judge_2 rfl rfl ?_
  refine go_iload_n d_La_judge_3 rfl rfl ?_
  exact mGo.refl
