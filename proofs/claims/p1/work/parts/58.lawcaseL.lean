theorem k7_108 : (Jvm.Cond.methodLink "ChanceArenaLaw" (135 : Nat) ({ cls := "ChanceArena", name := "compare", desc := "(IIII)I" } : Jvm.MethodName)) ∈ lw_R := zR (zk_7 _ (List.mem_of_getElem? (i := 108) (by decide +kernel))) rfl
theorem k7_109 : (Jvm.Cond.instanceMethod ({ cls := "ChanceArena", name := "compare", desc := "(IIII)I" } : Jvm.MethodName)) ∈ lw_R := zR (zk_7 _ (List.mem_of_getElem? (i := 109) (by decide +kernel))) rfl
theorem k7_110 : (Jvm.Cond.selects "ChanceArena" ({ cls := "ChanceArena", name := "compare", desc := "(IIII)I" } : Jvm.MethodName) ({ cls := "ChanceArena", name := "compare", desc := "(IIII)I" } : Jvm.MethodName)) ∈ lw_R := zR (zk_7 _ (List.mem_of_getElem? (i := 110) (by decide +kernel))) rfl
theorem k13_216 : (Jvm.Cond.methodLink "ChanceArenaLaw" (138 : Nat) ({ cls := "ChanceArenaModel", name := "compare", desc := "(IIII)I" } : Jvm.MethodName)) ∈ lw_R := zR (zk_13 _ (List.mem_of_getElem? (i := 216) (by decide +kernel))) rfl
theorem k13_217 : (Jvm.Cond.instanceMethod ({ cls := "ChanceArenaModel", name := "compare", desc := "(IIII)I" } : Jvm.MethodName)) ∈ lw_R := zR (zk_13 _ (List.mem_of_getElem? (i := 217) (by decide +kernel))) rfl
theorem k13_218 : (Jvm.Cond.selects "ChanceArenaModel" ({ cls := "ChanceArenaModel", name := "compare", desc := "(IIII)I" } : Jvm.MethodName) ({ cls := "ChanceArenaModel", name := "compare", desc := "(IIII)I" } : Jvm.MethodName)) ∈ lw_R := zR (zk_13 _ (List.mem_of_getElem? (i := 218) (by decide +kernel))) rfl
theorem d_law_957 : decode code 957 = .ok (.aload_n 1, 1) := dc9_43 (by decide +kernel)
theorem d_law_958 : decode code 958 = .ok (.aload_n 0, 1) := dc9_42 (by decide +kernel)
theorem d_law_959 : decode code 959 = .ok (.iload 4, 2) := dc9_21 (by decide +kernel)
theorem d_law_961 : decode code 961 = .ok (.iconst 1, 1) := dc9_4 (by decide +kernel)
theorem d_law_962 : decode code 962 = .ok (.iadd, 1) := dc9_96 (by decide +kernel)
theorem d_law_963 : decode code 963 = .ok (.iaload, 1) := dc9_46 (by decide +kernel)
theorem d_law_964 : decode code 964 = .ok (.aload_n 0, 1) := dc9_42 (by decide +kernel)
theorem d_law_965 : decode code 965 = .ok (.iload 4, 2) := dc9_21 (by decide +kernel)
theorem d_law_967 : decode code 967 = .ok (.iconst 2, 1) := dc9_5 (by decide +kernel)
theorem d_law_968 : decode code 968 = .ok (.iadd, 1) := dc9_96 (by decide +kernel)
theorem d_law_969 : decode code 969 = .ok (.iaload, 1) := dc9_46 (by decide +kernel)
theorem d_law_970 : decode code 970 = .ok (.aload_n 0, 1) := dc9_42 (by decide +kernel)
theorem d_law_971 : decode code 971 = .ok (.iload 4, 2) := dc9_21 (by decide +kernel)
theorem d_law_973 : decode code 973 = .ok (.iconst 3, 1) := dc9_6 (by decide +kernel)
theorem d_law_974 : decode code 974 = .ok (.iadd, 1) := dc9_96 (by decide +kernel)
theorem d_law_975 : decode code 975 = .ok (.iaload, 1) := dc9_46 (by decide +kernel)
theorem d_law_976 : decode code 976 = .ok (.aload_n 0, 1) := dc9_42 (by decide +kernel)
theorem d_law_977 : decode code 977 = .ok (.iload 4, 2) := dc9_21 (by decide +kernel)
theorem d_law_979 : decode code 979 = .ok (.iconst 4, 1) := dc9_7 (by decide +kernel)
theorem d_law_980 : decode code 980 = .ok (.iadd, 1) := dc9_96 (by decide +kernel)
theorem d_law_981 : decode code 981 = .ok (.iaload, 1) := dc9_46 (by decide +kernel)
theorem d_law_982 : decode code 982 = .ok (.invokevirtual 135, 3) := dc9_182 (by decide +kernel)
theorem d_law_985 : decode code 985 = .ok (.aload_n 2, 1) := dc9_44 (by decide +kernel)
theorem d_law_986 : decode code 986 = .ok (.aload_n 0, 1) := dc9_42 (by decide +kernel)
theorem d_law_987 : decode code 987 = .ok (.iload 4, 2) := dc9_21 (by decide +kernel)
theorem d_law_989 : decode code 989 = .ok (.iconst 1, 1) := dc9_4 (by decide +kernel)
theorem d_law_990 : decode code 990 = .ok (.iadd, 1) := dc9_96 (by decide +kernel)
theorem d_law_991 : decode code 991 = .ok (.iaload, 1) := dc9_46 (by decide +kernel)
theorem d_law_992 : decode code 992 = .ok (.aload_n 0, 1) := dc9_42 (by decide +kernel)
theorem d_law_993 : decode code 993 = .ok (.iload 4, 2) := dc9_21 (by decide +kernel)
theorem d_law_995 : decode code 995 = .ok (.iconst 2, 1) := dc9_5 (by decide +kernel)
theorem d_law_996 : decode code 996 = .ok (.iadd, 1) := dc9_96 (by decide +kernel)
theorem d_law_997 : decode code 997 = .ok (.iaload, 1) := dc9_46 (by decide +kernel)
theorem d_law_998 : decode code 998 = .ok (.aload_n 0, 1) := dc9_42 (by decide +kernel)
theorem d_law_999 : decode code 999 = .ok (.iload 4, 2) := dc9_21 (by decide +kernel)
theorem d_law_1001 : decode code 1001 = .ok (.iconst 3, 1) := dc9_6 (by decide +kernel)
theorem d_law_1002 : decode code 1002 = .ok (.iadd, 1) := dc9_96 (by decide +kernel)
theorem d_law_1003 : decode code 1003 = .ok (.iaload, 1) := dc9_46 (by decide +kernel)
theorem d_law_1004 : decode code 1004 = .ok (.aload_n 0, 1) := dc9_42 (by decide +kernel)
theorem d_law_1005 : decode code 1005 = .ok (.iload 4, 2) := dc9_21 (by decide +kernel)
theorem d_law_1007 : decode code 1007 = .ok (.iconst 4, 1) := dc9_7 (by decide +kernel)
theorem d_law_1008 : decode code 1008 = .ok (.iadd, 1) := dc9_96 (by decide +kernel)
theorem d_law_1009 : decode code 1009 = .ok (.iaload, 1) := dc9_46 (by decide +kernel)
theorem d_law_1010 : decode code 1010 = .ok (.invokevirtual 138, 3) := dc9_182 (by decide +kernel)
theorem d_law_1013 : decode code 1013 = .ok (.if_icmp .eq 142, 3) := dc9_159 (by decide +kernel)
set_option maxHeartbeats 4000000 in
set_option maxRecDepth 100000 in
theorem law_case_21 {p : Program} {l : Launch} {e : Env} {s : State} {m : MethodId} {below : List Frame} {meth : Method} {c : Code} {D : va_G} {tA : Nat → ClassId} {A : Nat → Prop} {b oa : Nat} {xs : Nat → Int32} {Q : State → Prop} {x0 a_q8 a_q19 a_q30 a_q41 a_q52 a_q78 a_q89 a_q104 a_q115 a_q126 a_q137 a_q148 a_q159 a_q173 a_q104_q6 a_q115_q6 a_q137_q6 y0 b_q5 b_q16 b_q27 b_q38 b_q49 b_q60 b_q71 b_q82 b_q98 b_q109 b_q120 b_q131 b_q142 b_q153 b_q167 b_q176 b_q182 b_q195 b_q203 b_q211 b_q219 b_q233 b_q242 b_q251 b_q260 b_q266 b_q277 b_q288 b_q299 b_q310 b_q324 b_q333 b_q342 b_q350 b_q358 b_q366 b_q375 b_q310_q5 b_q310_q19 b_q310_q28 b_q310_q37 b_q310_q46 b_q310_q55 b_q310_q64 b_q310_q73 b_q310_q82 b_q310_q90 b_q310_q99 b_q310_q109 b_q310_q118 b_q310_q127 b_q310_q136 b_q310_q145 b_q310_q154 b_q310_q163 b_q310_q172 b_q310_q181 b_q310_q190 b_q310_q197 b_q310_q210 b_q310_q223 b_q310_q237 b_q310_q251 b_q310_q268 : Nat} {H : Heap} {locs : List Loc} {ls : Array Slot} (htr : l.stackTraces = false) (hx : p.tables.exec = Jvm.exec) (hb : c.code = code) (hml : c.maxLocals = 7) (hh : zH s) (hg : ∀ w ∈ lw_R, w.before #[Value.ref b] s = true) (hown : s.vm.findClass "ChanceArenaLaw" = some m.cls) (hK : va_K D vwCl (zT tA) s) (hA : ∀ q, s.heap.size ≤ q → A q) (hAn : ∀ q, q < s.heap.size → ¬ A q) (h2 : zS2 s.heap.size s s.heap) (hN : va_Nc "java/lang/IllegalStateException" "java/lang/IllegalArgumentException" s) (hX : va_X b 6 xs s s.heap) (hbl : b < s.heap.size) (hP : va_P D vwCl [(x0, .inr (0, [.ref a_q8, .int 0, .ref a_q19, .ref a_q30, .ref a_q41, .ref a_q52, .int 0, .int (-1), .int (-1), .ref a_q78, .ref a_q89, .ref a_q104, .ref a_q115, .ref a_q126, .ref a_q137, .ref a_q148, .ref a_q159, .ref a_q173, .int 0])), (a_q104, .inr (12, [.ref a_q104_q6, .int 0])), (a_q115, .inr (12, [.ref a_q115_q6, .int 0])), (a_q137, .inr (12, [.ref a_q137_q6, .int 0])), (y0, .inr (13, [.int 0, .ref b_q5, .ref b_q16, .ref b_q27, .ref b_q38, .ref b_q49, .ref b_q60, .int 0, .int 0, .ref b_q71, .ref b_q82, .int 0, .int (-1), .ref b_q98, .ref b_q109, .ref b_q120, .int 0, .int 0, .ref b_q131, .ref b_q142, .ref b_q153, .ref b_q167, .ref b_q176, .int 0, .ref b_q182, .ref b_q195, .ref b_q203, .ref b_q211, .ref b_q219, .int 0, .int (-1), .ref b_q233, .ref b_q242, .ref b_q251, .ref b_q260, .ref b_q266, .ref b_q277, .ref b_q288, .ref b_q299, .ref b_q310, .int 0, .ref b_q324, .ref b_q333, .ref b_q342, .ref b_q350, .ref b_q358, .ref b_q366, .ref b_q375, .int 0])), (b_q310, .inr (16, [.ref b_q310_q5, .int 0, .int 0, .int 0, .ref b_q310_q19, .ref b_q310_q28, .ref b_q310_q37, .ref b_q310_q46, .ref b_q310_q55, .ref b_q310_q64, .ref b_q310_q73, .ref b_q310_q82, .ref b_q310_q90, .ref b_q310_q99, .ref b_q310_q109, .ref b_q310_q118, .ref b_q310_q127, .int 0, .ref b_q310_q136, .ref b_q310_q145, .ref b_q310_q154, .ref b_q310_q163, .ref b_q310_q172, .ref b_q310_q181, .int 0, .ref b_q310_q190, .ref b_q310_q197, .ref b_q310_q210, .ref b_q310_q223, .ref b_q310_q237, .ref b_q310_q251, .ref b_q310_q268]))] H) (hD : va_D A [(x0, .inr (0, [.ref a_q8, .int 0, .ref a_q19, .ref a_q30, .ref a_q41, .ref a_q52, .int 0, .int (-1), .int (-1), .ref a_q78, .ref a_q89, .ref a_q104, .ref a_q115, .ref a_q126, .ref a_q137, .ref a_q148, .ref a_q159, .ref a_q173, .int 0])), (a_q104, .inr (12, [.ref a_q104_q6, .int 0])), (a_q115, .inr (12, [.ref a_q115_q6, .int 0])), (a_q137, .inr (12, [.ref a_q137_q6, .int 0])), (y0, .inr (13, [.int 0, .ref b_q5, .ref b_q16, .ref b_q27, .ref b_q38, .ref b_q49, .ref b_q60, .int 0, .int 0, .ref b_q71, .ref b_q82, .int 0, .int (-1), .ref b_q98, .ref b_q109, .ref b_q120, .int 0, .int 0, .ref b_q131, .ref b_q142, .ref b_q153, .ref b_q167, .ref b_q176, .int 0, .ref b_q182, .ref b_q195, .ref b_q203, .ref b_q211, .ref b_q219, .int 0, .int (-1), .ref b_q233, .ref b_q242, .ref b_q251, .ref b_q260, .ref b_q266, .ref b_q277, .ref b_q288, .ref b_q299, .ref b_q310, .int 0, .ref b_q324, .ref b_q333, .ref b_q342, .ref b_q350, .ref b_q358, .ref b_q366, .ref b_q375, .int 0])), (b_q310, .inr (16, [.ref b_q310_q5, .int 0, .int 0, .int 0, .ref b_q310_q19, .ref b_q310_q28, .ref b_q310_q37, .ref b_q310_q46, .ref b_q310_q55, .ref b_q310_q64, .ref b_q310_q73, .ref b_q310_q82, .ref b_q310_q90, .ref b_q310_q99, .ref b_q310_q109, .ref b_q310_q118, .ref b_q310_q127, .int 0, .ref b_q310_q136, .ref b_q310_q145, .ref b_q310_q154, .ref b_q310_q163, .ref b_q310_q172, .ref b_q310_q181, .int 0, .ref b_q310_q190, .ref b_q310_q197, .ref b_q310_q210, .ref b_q310_q223, .ref b_q310_q237, .ref b_q310_q251, .ref b_q310_q268]))]) (hS : va_S A s.heap H locs) (hl : lv_has ls 7 [(4, .int 0), (3, .ref oa), (2, .ref y0), (1, .ref x0), (0, .ref b)])
    (kk : ∀ (H1 : Heap) (locs1 : List Loc) (ls1 : Array Slot) (c1 s1 : Nat), c1 ≤ 600002 → s1 ≤ 7302231 → va_S A s.heap H1 locs1 → lv_has ls1 7 [(4, .int 0), (0, .ref b)] → W p l e room_1 s m #[Value.ref b] below meth c H1 locs1 c1 s1 Q (F0 m 1155 ls1 [])) :
    W p l e room_1 s m #[Value.ref b] below meth c H locs 21429 651797 Q (F0 m 957 ls []) := by
  refine lv_aload_n hx hb d_law_957 rfl (lv_at hl 3 rfl) ?_
  refine lv_aload_n hx hb d_law_958 rfl (lv_at hl 4 rfl) ?_
  refine lv_iload hx hb d_law_959 (lv_at hl 0 rfl) ?_
  refine lv_iconst (v := 1) hx hb d_law_961 (by decide) ?_
  refine lv_iadd hx hb d_law_962 ?_
  rw [show (0 : Int32) + 1 = 1 from by decide]
  refine va_sld hx hb hX hbl (hAn b hbl) hS (vp_in_iff.mpr (by decide)) d_law_963 ?_
  refine W.eq (g2 := F0 m 964 ls [.int (xs 1), .ref x0]) rfl ?_
  refine lv_aload_n hx hb d_law_964 rfl (lv_at hl 4 rfl) ?_
  refine lv_iload hx hb d_law_965 (lv_at hl 0 rfl) ?_
  refine lv_iconst (v := 2) hx hb d_law_967 (by decide) ?_
  refine lv_iadd hx hb d_law_968 ?_
  rw [show (0 : Int32) + 2 = 2 from by decide]
  refine va_sld hx hb hX hbl (hAn b hbl) hS (vp_in_iff.mpr (by decide)) d_law_969 ?_
  refine W.eq (g2 := F0 m 970 ls [.int (xs 2), .int (xs 1), .ref x0]) rfl ?_
  refine lv_aload_n hx hb d_law_970 rfl (lv_at hl 4 rfl) ?_
  refine lv_iload hx hb d_law_971 (lv_at hl 0 rfl) ?_
  refine lv_iconst (v := 3) hx hb d_law_973 (by decide) ?_
  refine lv_iadd hx hb d_law_974 ?_
  rw [show (0 : Int32) + 3 = 3 from by decide]
  refine va_sld hx hb hX hbl (hAn b hbl) hS (vp_in_iff.mpr (by decide)) d_law_975 ?_
  refine W.eq (g2 := F0 m 976 ls [.int (xs 3), .int (xs 2), .int (xs 1), .ref x0]) rfl ?_
  refine lv_aload_n hx hb d_law_976 rfl (lv_at hl 4 rfl) ?_
  refine lv_iload hx hb d_law_977 (lv_at hl 0 rfl) ?_
  refine lv_iconst (v := 4) hx hb d_law_979 (by decide) ?_
  refine lv_iadd hx hb d_law_980 ?_
  rw [show (0 : Int32) + 4 = 4 from by decide]
  refine va_sld hx hb hX hbl (hAn b hbl) hS (vp_in_iff.mpr (by decide)) d_law_981 ?_
  refine W.eq (g2 := F0 m 982 ls [.int (xs 4), .int (xs 3), .int (xs 2), .int (xs 1), .ref x0]) rfl ?_
  refine zCallp hP hS hA (va_runV (As := [.int (xs 1), .int (xs 2), .int (xs 3), .int (xs 4)]) (rest := []) ⟨hx, hb, hml, hown, hg⟩ (c_CA_compare_0 l D tA _ x0 [.ref a_q8, .int 0, .ref a_q19, .ref a_q30, .ref a_q41, .ref a_q52, .int 0, .int (-1), .int (-1), .ref a_q78, .ref a_q89, .ref a_q104, .ref a_q115, .ref a_q126, .ref a_q137, .ref a_q148, .ref a_q159, .ref a_q173, .int 0] a_q104 [.ref a_q104_q6, .int 0] rfl rfl a_q115 [.ref a_q115_q6, .int 0] rfl rfl a_q137 [.ref a_q137_q6, .int 0] rfl rfl (xs 1) (xs 2) (xs 3) (xs 4)) (zV 4 hg k7_108 k7_109 k7_110 k1_1 k7_111 rfl rfl (by decide +kernel) ⟨(Nat.le_of_ble_eq_true rfl), (Nat.le_of_ble_eq_true rfl)⟩) (zPreV hh hK hP hD [0, 1, 2, 3] (by decide) rfl (ci := 0) rfl 0 rfl) rfl rfl hl.1 rfl (lv_room (Nat.le_of_ble_eq_true rfl)) d_law_982 ⟨(Nat.le_of_ble_eq_true rfl), (Nat.le_of_ble_eq_true rfl)⟩) (fun r9 H1 locs1 e9 hP1 hS1 => ?_)
  clear hP hS
  replace e9 : r9 = (-2) := e9
  subst e9
  refine lv_aload_n hx hb d_law_985 rfl (lv_at hl 2 rfl) ?_
  refine lv_aload_n hx hb d_law_986 rfl (lv_at hl 4 rfl) ?_
  refine lv_iload hx hb d_law_987 (lv_at hl 0 rfl) ?_
  refine lv_iconst (v := 1) hx hb d_law_989 (by decide) ?_
  refine lv_iadd hx hb d_law_990 ?_
  rw [show (0 : Int32) + 1 = 1 from by decide]
  refine va_sld hx hb hX hbl (hAn b hbl) hS1 (vp_in_iff.mpr (by decide)) d_law_991 ?_
  refine W.eq (g2 := F0 m 992 ls [.int (xs 1), .ref y0, .int (-2)]) rfl ?_
  refine lv_aload_n hx hb d_law_992 rfl (lv_at hl 4 rfl) ?_
  refine lv_iload hx hb d_law_993 (lv_at hl 0 rfl) ?_
  refine lv_iconst (v := 2) hx hb d_law_995 (by decide) ?_
  refine lv_iadd hx hb d_law_996 ?_
  rw [show (0 : Int32) + 2 = 2 from by decide]
  refine va_sld hx hb hX hbl (hAn b hbl) hS1 (vp_in_iff.mpr (by decide)) d_law_997 ?_
  refine W.eq (g2 := F0 m 998 ls [.int (xs 2), .int (xs 1), .ref y0, .int (-2)]) rfl ?_
  refine lv_aload_n hx hb d_law_998 rfl (lv_at hl 4 rfl) ?_
  refine lv_iload hx hb d_law_999 (lv_at hl 0 rfl) ?_
  refine lv_iconst (v := 3) hx hb d_law_1001 (by decide) ?_
  refine lv_iadd hx hb d_law_1002 ?_
  rw [show (0 : Int32) + 3 = 3 from by decide]
  refine va_sld hx hb hX hbl (hAn b hbl) hS1 (vp_in_iff.mpr (by decide)) d_law_1003 ?_
  refine W.eq (g2 := F0 m 1004 ls [.int (xs 3), .int (xs 2), .int (xs 1), .ref y0, .int (-2)]) rfl ?_
  refine lv_aload_n hx hb d_law_1004 rfl (lv_at hl 4 rfl) ?_
  refine lv_iload hx hb d_law_1005 (lv_at hl 0 rfl) ?_
  refine lv_iconst (v := 4) hx hb d_law_1007 (by decide) ?_
  refine lv_iadd hx hb d_law_1008 ?_
  rw [show (0 : Int32) + 4 = 4 from by decide]
  refine va_sld hx hb hX hbl (hAn b hbl) hS1 (vp_in_iff.mpr (by decide)) d_law_1009 ?_
  refine W.eq (g2 := F0 m 1010 ls [.int (xs 4), .int (xs 3), .int (xs 2), .int (xs 1), .ref y0, .int (-2)]) rfl ?_
  refine zCalli (wc := [(y0, .inr (13, [.int 0, .ref b_q5, .ref b_q16, .ref b_q27, .ref b_q38, .ref b_q49, .ref b_q60, .int 0, .int 0, .ref b_q71, .ref b_q82, .int 0, .int (-1), .ref b_q98, .ref b_q109, .ref b_q120, .int 0, .int 0, .ref b_q131, .ref b_q142, .ref b_q153, .ref b_q167, .ref b_q176, .int 0, .ref b_q182, .ref b_q195, .ref b_q203, .ref b_q211, .ref b_q219, .int 0, .int (-1), .ref b_q233, .ref b_q242, .ref b_q251, .ref b_q260, .ref b_q266, .ref b_q277, .ref b_q288, .ref b_q299, .ref b_q310, .int 0, .ref b_q324, .ref b_q333, .ref b_q342, .ref b_q350, .ref b_q358, .ref b_q366, .ref b_q375, .int 0])), (b_q310, .inr (16, [.ref b_q310_q5, .int 0, .int 0, .int 0, .ref b_q310_q19, .ref b_q310_q28, .ref b_q310_q37, .ref b_q310_q46, .ref b_q310_q55, .ref b_q310_q64, .ref b_q310_q73, .ref b_q310_q82, .ref b_q310_q90, .ref b_q310_q99, .ref b_q310_q109, .ref b_q310_q118, .ref b_q310_q127, .int 0, .ref b_q310_q136, .ref b_q310_q145, .ref b_q310_q154, .ref b_q310_q163, .ref b_q310_q172, .ref b_q310_q181, .int 0, .ref b_q310_q190, .ref b_q310_q197, .ref b_q310_q210, .ref b_q310_q223, .ref b_q310_q237, .ref b_q310_q251, .ref b_q310_q268]))]) (wr := [(x0, .inr (0, [.ref a_q8, .int 0, .ref a_q19, .ref a_q30, .ref a_q41, .ref a_q52, .int 0, .int (-1), .int (-1), .ref a_q78, .ref a_q89, .ref a_q104, .ref a_q115, .ref a_q126, .ref a_q137, .ref a_q148, .ref a_q159, .ref a_q173, .int 0])), (a_q104, .inr (12, [.ref a_q104_q6, .int 0])), (a_q115, .inr (12, [.ref a_q115_q6, .int 0])), (a_q137, .inr (12, [.ref a_q137_q6, .int 0]))]) hP1 hD hS1 hA [4, 5] [0, 1, 2, 3] rfl rfl (by decide) (by decide) (va_runV (As := [.int (xs 1), .int (xs 2), .int (xs 3), .int (xs 4)]) (rest := [.int (-2)]) ⟨hx, hb, hml, hown, hg⟩ (c_MM_compare_0 l D tA _ y0 [.int 0, .ref b_q5, .ref b_q16, .ref b_q27, .ref b_q38, .ref b_q49, .ref b_q60, .int 0, .int 0, .ref b_q71, .ref b_q82, .int 0, .int (-1), .ref b_q98, .ref b_q109, .ref b_q120, .int 0, .int 0, .ref b_q131, .ref b_q142, .ref b_q153, .ref b_q167, .ref b_q176, .int 0, .ref b_q182, .ref b_q195, .ref b_q203, .ref b_q211, .ref b_q219, .int 0, .int (-1), .ref b_q233, .ref b_q242, .ref b_q251, .ref b_q260, .ref b_q266, .ref b_q277, .ref b_q288, .ref b_q299, .ref b_q310, .int 0, .ref b_q324, .ref b_q333, .ref b_q342, .ref b_q350, .ref b_q358, .ref b_q366, .ref b_q375, .int 0] 0 rfl b_q310 [.ref b_q310_q5, .int 0, .int 0, .int 0, .ref b_q310_q19, .ref b_q310_q28, .ref b_q310_q37, .ref b_q310_q46, .ref b_q310_q55, .ref b_q310_q64, .ref b_q310_q73, .ref b_q310_q82, .ref b_q310_q90, .ref b_q310_q99, .ref b_q310_q109, .ref b_q310_q118, .ref b_q310_q127, .int 0, .ref b_q310_q136, .ref b_q310_q145, .ref b_q310_q154, .ref b_q310_q163, .ref b_q310_q172, .ref b_q310_q181, .int 0, .ref b_q310_q190, .ref b_q310_q197, .ref b_q310_q210, .ref b_q310_q223, .ref b_q310_q237, .ref b_q310_q251, .ref b_q310_q268] rfl rfl (xs 1) (xs 2) (xs 3) (xs 4)) (zV 4 hg k13_216 k13_217 k13_218 k1_14 k13_219 rfl rfl (by decide +kernel) ⟨(Nat.le_of_ble_eq_true rfl), (Nat.le_of_ble_eq_true rfl)⟩) (zPreV hh hK hP1 hD [4, 5] (by decide) rfl (ci := 13) rfl 0 rfl) rfl rfl hl.1 rfl (lv_room (Nat.le_of_ble_eq_true rfl)) d_law_1010 ⟨(Nat.le_of_ble_eq_true rfl), (Nat.le_of_ble_eq_true rfl)⟩) (fun r9 _ H2 locs2 e9 hP2 hD2 hS2 => ?_)
  clear hP1 hD hS1
  replace e9 : r9 = (-2) := e9
  subst e9
  replace hP2 : va_P D vwCl [(x0, .inr (0, [.ref a_q8, .int 0, .ref a_q19, .ref a_q30, .ref a_q41, .ref a_q52, .int 0, .int (-1), .int (-1), .ref a_q78, .ref a_q89, .ref a_q104, .ref a_q115, .ref a_q126, .ref a_q137, .ref a_q148, .ref a_q159, .ref a_q173, .int 0])), (a_q104, .inr (12, [.ref a_q104_q6, .int 0])), (a_q115, .inr (12, [.ref a_q115_q6, .int 0])), (a_q137, .inr (12, [.ref a_q137_q6, .int 0])), (y0, .inr (13, [.int 0, .ref b_q5, .ref b_q16, .ref b_q27, .ref b_q38, .ref b_q49, .ref b_q60, .int 0, .int 0, .ref b_q71, .ref b_q82, .int 0, .int (-1), .ref b_q98, .ref b_q109, .ref b_q120, .int 0, .int 0, .ref b_q131, .ref b_q142, .ref b_q153, .ref b_q167, .ref b_q176, .int 0, .ref b_q182, .ref b_q195, .ref b_q203, .ref b_q211, .ref b_q219, .int 0, .int (-1), .ref b_q233, .ref b_q242, .ref b_q251, .ref b_q260, .ref b_q266, .ref b_q277, .ref b_q288, .ref b_q299, .ref b_q310, .int 0, .ref b_q324, .ref b_q333, .ref b_q342, .ref b_q350, .ref b_q358, .ref b_q366, .ref b_q375, .int 0])), (b_q310, .inr (16, [.ref b_q310_q5, .int 0, .int 0, .int 0, .ref b_q310_q19, .ref b_q310_q28, .ref b_q310_q37, .ref b_q310_q46, .ref b_q310_q55, .ref b_q310_q64, .ref b_q310_q73, .ref b_q310_q82, .ref b_q310_q90, .ref b_q310_q99, .ref b_q310_q109, .ref b_q310_q118, .ref b_q310_q127, .int 0, .ref b_q310_q136, .ref b_q310_q145, .ref b_q310_q154, .ref b_q310_q163, .ref b_q310_q172, .ref b_q310_q181, .int 0, .ref b_q310_q190, .ref b_q310_q197, .ref b_q310_q210, .ref b_q310_q223, .ref b_q310_q237, .ref b_q310_q251, .ref b_q310_q268]))] _ := hP2
  replace hD2 : va_D A [(x0, .inr (0, [.ref a_q8, .int 0, .ref a_q19, .ref a_q30, .ref a_q41, .ref a_q52, .int 0, .int (-1), .int (-1), .ref a_q78, .ref a_q89, .ref a_q104, .ref a_q115, .ref a_q126, .ref a_q137, .ref a_q148, .ref a_q159, .ref a_q173, .int 0])), (a_q104, .inr (12, [.ref a_q104_q6, .int 0])), (a_q115, .inr (12, [.ref a_q115_q6, .int 0])), (a_q137, .inr (12, [.ref a_q137_q6, .int 0])), (y0, .inr (13, [.int 0, .ref b_q5, .ref b_q16, .ref b_q27, .ref b_q38, .ref b_q49, .ref b_q60, .int 0, .int 0, .ref b_q71, .ref b_q82, .int 0, .int (-1), .ref b_q98, .ref b_q109, .ref b_q120, .int 0, .int 0, .ref b_q131, .ref b_q142, .ref b_q153, .ref b_q167, .ref b_q176, .int 0, .ref b_q182, .ref b_q195, .ref b_q203, .ref b_q211, .ref b_q219, .int 0, .int (-1), .ref b_q233, .ref b_q242, .ref b_q251, .ref b_q260, .ref b_q266, .ref b_q277, .ref b_q288, .ref b_q299, .ref b_q310, .int 0, .ref b_q324, .ref b_q333, .ref b_q342, .ref b_q350, .ref b_q358, .ref b_q366, .ref b_q375, .int 0])), (b_q310, .inr (16, [.ref b_q310_q5, .int 0, .int 0, .int 0, .ref b_q310_q19, .ref b_q310_q28, .ref b_q310_q37, .ref b_q310_q46, .ref b_q310_q55, .ref b_q310_q64, .ref b_q310_q73, .ref b_q310_q82, .ref b_q310_q90, .ref b_q310_q99, .ref b_q310_q109, .ref b_q310_q118, .ref b_q310_q127, .int 0, .ref b_q310_q136, .ref b_q310_q145, .ref b_q310_q154, .ref b_q310_q163, .ref b_q310_q172, .ref b_q310_q181, .int 0, .ref b_q310_q190, .ref b_q310_q197, .ref b_q310_q210, .ref b_q310_q223, .ref b_q310_q237, .ref b_q310_q251, .ref b_q310_q268]))] := hD2
  refine lv_icmp_eq (tgt := 1155) hx hb d_law_1013 (by decide) (fun _ => ?_) (fun c9 => absurd rfl c9)
  exact kk _ _ _ _ _ (Nat.le_of_ble_eq_true rfl) (Nat.le_of_ble_eq_true rfl) hS2 (lv_sub hl [0, 4] rfl)
