theorem k5_170 : (Jvm.Cond.methodLink "ChanceArenaLaw" (105 : Nat) ({ cls := "ChanceArena", name := "branch", desc := "(IIII)I" } : Jvm.MethodName)) ∈ lw_R := zR (zk_5 _ (List.mem_of_getElem? (i := 170) (by decide +kernel))) rfl
theorem k5_171 : (Jvm.Cond.instanceMethod ({ cls := "ChanceArena", name := "branch", desc := "(IIII)I" } : Jvm.MethodName)) ∈ lw_R := zR (zk_5 _ (List.mem_of_getElem? (i := 171) (by decide +kernel))) rfl
theorem k5_172 : (Jvm.Cond.selects "ChanceArena" ({ cls := "ChanceArena", name := "branch", desc := "(IIII)I" } : Jvm.MethodName) ({ cls := "ChanceArena", name := "branch", desc := "(IIII)I" } : Jvm.MethodName)) ∈ lw_R := zR (zk_5 _ (List.mem_of_getElem? (i := 172) (by decide +kernel))) rfl
theorem k7_129 : (Jvm.Cond.methodLink "ChanceArenaLaw" (143 : Nat) ({ cls := "ChanceArena", name := "choice", desc := "(I)I" } : Jvm.MethodName)) ∈ lw_R := zR (zk_7 _ (List.mem_of_getElem? (i := 129) (by decide +kernel))) rfl
theorem k7_130 : (Jvm.Cond.instanceMethod ({ cls := "ChanceArena", name := "choice", desc := "(I)I" } : Jvm.MethodName)) ∈ lw_R := zR (zk_7 _ (List.mem_of_getElem? (i := 130) (by decide +kernel))) rfl
theorem k7_131 : (Jvm.Cond.selects "ChanceArena" ({ cls := "ChanceArena", name := "choice", desc := "(I)I" } : Jvm.MethodName) ({ cls := "ChanceArena", name := "choice", desc := "(I)I" } : Jvm.MethodName)) ∈ lw_R := zR (zk_7 _ (List.mem_of_getElem? (i := 131) (by decide +kernel))) rfl
theorem k7_133 : (Jvm.Cond.methodLink "ChanceArenaLaw" (147 : Nat) ({ cls := "ChanceArena", name := "rank", desc := "(I)I" } : Jvm.MethodName)) ∈ lw_R := zR (zk_7 _ (List.mem_of_getElem? (i := 133) (by decide +kernel))) rfl
theorem k7_134 : (Jvm.Cond.instanceMethod ({ cls := "ChanceArena", name := "rank", desc := "(I)I" } : Jvm.MethodName)) ∈ lw_R := zR (zk_7 _ (List.mem_of_getElem? (i := 134) (by decide +kernel))) rfl
theorem k7_135 : (Jvm.Cond.selects "ChanceArena" ({ cls := "ChanceArena", name := "rank", desc := "(I)I" } : Jvm.MethodName) ({ cls := "ChanceArena", name := "rank", desc := "(I)I" } : Jvm.MethodName)) ∈ lw_R := zR (zk_7 _ (List.mem_of_getElem? (i := 135) (by decide +kernel))) rfl
theorem k12_177 : (Jvm.Cond.methodLink "ChanceArenaLaw" (109 : Nat) ({ cls := "ChanceArenaModel", name := "branch", desc := "(IIII)I" } : Jvm.MethodName)) ∈ lw_R := zR (zk_12 _ (List.mem_of_getElem? (i := 177) (by decide +kernel))) rfl
theorem k12_178 : (Jvm.Cond.instanceMethod ({ cls := "ChanceArenaModel", name := "branch", desc := "(IIII)I" } : Jvm.MethodName)) ∈ lw_R := zR (zk_12 _ (List.mem_of_getElem? (i := 178) (by decide +kernel))) rfl
theorem k12_179 : (Jvm.Cond.selects "ChanceArenaModel" ({ cls := "ChanceArenaModel", name := "branch", desc := "(IIII)I" } : Jvm.MethodName) ({ cls := "ChanceArenaModel", name := "branch", desc := "(IIII)I" } : Jvm.MethodName)) ∈ lw_R := zR (zk_12 _ (List.mem_of_getElem? (i := 179) (by decide +kernel))) rfl
theorem k13_238 : (Jvm.Cond.methodLink "ChanceArenaLaw" (146 : Nat) ({ cls := "ChanceArenaModel", name := "choice", desc := "(I)I" } : Jvm.MethodName)) ∈ lw_R := zR (zk_13 _ (List.mem_of_getElem? (i := 238) (by decide +kernel))) rfl
theorem k13_239 : (Jvm.Cond.instanceMethod ({ cls := "ChanceArenaModel", name := "choice", desc := "(I)I" } : Jvm.MethodName)) ∈ lw_R := zR (zk_13 _ (List.mem_of_getElem? (i := 239) (by decide +kernel))) rfl
theorem k14_0 : (Jvm.Cond.selects "ChanceArenaModel" ({ cls := "ChanceArenaModel", name := "choice", desc := "(I)I" } : Jvm.MethodName) ({ cls := "ChanceArenaModel", name := "choice", desc := "(I)I" } : Jvm.MethodName)) ∈ lw_R := zR (zk_14 _ (List.mem_of_getElem? (i := 0) (by decide +kernel))) rfl
theorem k14_6 : (Jvm.Cond.methodLink "ChanceArenaLaw" (150 : Nat) ({ cls := "ChanceArenaModel", name := "rank", desc := "(I)I" } : Jvm.MethodName)) ∈ lw_R := zR (zk_14 _ (List.mem_of_getElem? (i := 6) (by decide +kernel))) rfl
theorem k14_7 : (Jvm.Cond.instanceMethod ({ cls := "ChanceArenaModel", name := "rank", desc := "(I)I" } : Jvm.MethodName)) ∈ lw_R := zR (zk_14 _ (List.mem_of_getElem? (i := 7) (by decide +kernel))) rfl
theorem k14_8 : (Jvm.Cond.selects "ChanceArenaModel" ({ cls := "ChanceArenaModel", name := "rank", desc := "(I)I" } : Jvm.MethodName) ({ cls := "ChanceArenaModel", name := "rank", desc := "(I)I" } : Jvm.MethodName)) ∈ lw_R := zR (zk_14 _ (List.mem_of_getElem? (i := 8) (by decide +kernel))) rfl
theorem d_law_606 : decode code 606 = .ok (.aload_n 1, 1) := dc9_43 (by decide +kernel)
theorem d_law_607 : decode code 607 = .ok (.aload_n 0, 1) := dc9_42 (by decide +kernel)
theorem d_law_608 : decode code 608 = .ok (.iload 4, 2) := dc9_21 (by decide +kernel)
theorem d_law_610 : decode code 610 = .ok (.iconst 1, 1) := dc9_4 (by decide +kernel)
theorem d_law_611 : decode code 611 = .ok (.iadd, 1) := dc9_96 (by decide +kernel)
theorem d_law_612 : decode code 612 = .ok (.iaload, 1) := dc9_46 (by decide +kernel)
theorem d_law_613 : decode code 613 = .ok (.aload_n 0, 1) := dc9_42 (by decide +kernel)
theorem d_law_614 : decode code 614 = .ok (.iload 4, 2) := dc9_21 (by decide +kernel)
theorem d_law_616 : decode code 616 = .ok (.iconst 2, 1) := dc9_5 (by decide +kernel)
theorem d_law_617 : decode code 617 = .ok (.iadd, 1) := dc9_96 (by decide +kernel)
theorem d_law_618 : decode code 618 = .ok (.iaload, 1) := dc9_46 (by decide +kernel)
theorem d_law_619 : decode code 619 = .ok (.aload_n 0, 1) := dc9_42 (by decide +kernel)
theorem d_law_620 : decode code 620 = .ok (.iload 4, 2) := dc9_21 (by decide +kernel)
theorem d_law_622 : decode code 622 = .ok (.iconst 3, 1) := dc9_6 (by decide +kernel)
theorem d_law_623 : decode code 623 = .ok (.iadd, 1) := dc9_96 (by decide +kernel)
theorem d_law_624 : decode code 624 = .ok (.iaload, 1) := dc9_46 (by decide +kernel)
theorem d_law_625 : decode code 625 = .ok (.aload_n 0, 1) := dc9_42 (by decide +kernel)
theorem d_law_626 : decode code 626 = .ok (.iload 4, 2) := dc9_21 (by decide +kernel)
theorem d_law_628 : decode code 628 = .ok (.iconst 4, 1) := dc9_7 (by decide +kernel)
theorem d_law_629 : decode code 629 = .ok (.iadd, 1) := dc9_96 (by decide +kernel)
theorem d_law_630 : decode code 630 = .ok (.iaload, 1) := dc9_46 (by decide +kernel)
theorem d_law_631 : decode code 631 = .ok (.invokevirtual 105, 3) := dc9_182 (by decide +kernel)
theorem d_law_634 : decode code 634 = .ok (.aload_n 2, 1) := dc9_44 (by decide +kernel)
theorem d_law_635 : decode code 635 = .ok (.aload_n 0, 1) := dc9_42 (by decide +kernel)
theorem d_law_636 : decode code 636 = .ok (.iload 4, 2) := dc9_21 (by decide +kernel)
theorem d_law_638 : decode code 638 = .ok (.iconst 1, 1) := dc9_4 (by decide +kernel)
theorem d_law_639 : decode code 639 = .ok (.iadd, 1) := dc9_96 (by decide +kernel)
theorem d_law_640 : decode code 640 = .ok (.iaload, 1) := dc9_46 (by decide +kernel)
theorem d_law_641 : decode code 641 = .ok (.aload_n 0, 1) := dc9_42 (by decide +kernel)
theorem d_law_642 : decode code 642 = .ok (.iload 4, 2) := dc9_21 (by decide +kernel)
theorem d_law_644 : decode code 644 = .ok (.iconst 2, 1) := dc9_5 (by decide +kernel)
theorem d_law_645 : decode code 645 = .ok (.iadd, 1) := dc9_96 (by decide +kernel)
theorem d_law_646 : decode code 646 = .ok (.iaload, 1) := dc9_46 (by decide +kernel)
theorem d_law_647 : decode code 647 = .ok (.aload_n 0, 1) := dc9_42 (by decide +kernel)
theorem d_law_648 : decode code 648 = .ok (.iload 4, 2) := dc9_21 (by decide +kernel)
theorem d_law_650 : decode code 650 = .ok (.iconst 3, 1) := dc9_6 (by decide +kernel)
theorem d_law_651 : decode code 651 = .ok (.iadd, 1) := dc9_96 (by decide +kernel)
theorem d_law_652 : decode code 652 = .ok (.iaload, 1) := dc9_46 (by decide +kernel)
theorem d_law_653 : decode code 653 = .ok (.aload_n 0, 1) := dc9_42 (by decide +kernel)
theorem d_law_654 : decode code 654 = .ok (.iload 4, 2) := dc9_21 (by decide +kernel)
theorem d_law_656 : decode code 656 = .ok (.iconst 4, 1) := dc9_7 (by decide +kernel)
theorem d_law_657 : decode code 657 = .ok (.iadd, 1) := dc9_96 (by decide +kernel)
theorem d_law_658 : decode code 658 = .ok (.iaload, 1) := dc9_46 (by decide +kernel)
theorem d_law_659 : decode code 659 = .ok (.invokevirtual 109, 3) := dc9_182 (by decide +kernel)
theorem d_law_662 : decode code 662 = .ok (.if_icmp .eq 493, 3) := dc9_159 (by decide +kernel)
theorem d_law_1055 : decode code 1055 = .ok (.aload_n 1, 1) := dc9_43 (by decide +kernel)
theorem d_law_1056 : decode code 1056 = .ok (.aload_n 0, 1) := dc9_42 (by decide +kernel)
theorem d_law_1057 : decode code 1057 = .ok (.iload 4, 2) := dc9_21 (by decide +kernel)
theorem d_law_1059 : decode code 1059 = .ok (.iconst 1, 1) := dc9_4 (by decide +kernel)
theorem d_law_1060 : decode code 1060 = .ok (.iadd, 1) := dc9_96 (by decide +kernel)
theorem d_law_1061 : decode code 1061 = .ok (.iaload, 1) := dc9_46 (by decide +kernel)
theorem d_law_1062 : decode code 1062 = .ok (.invokevirtual 143, 3) := dc9_182 (by decide +kernel)
theorem d_law_1065 : decode code 1065 = .ok (.aload_n 2, 1) := dc9_44 (by decide +kernel)
theorem d_law_1066 : decode code 1066 = .ok (.aload_n 0, 1) := dc9_42 (by decide +kernel)
theorem d_law_1067 : decode code 1067 = .ok (.iload 4, 2) := dc9_21 (by decide +kernel)
theorem d_law_1069 : decode code 1069 = .ok (.iconst 1, 1) := dc9_4 (by decide +kernel)
theorem d_law_1070 : decode code 1070 = .ok (.iadd, 1) := dc9_96 (by decide +kernel)
theorem d_law_1071 : decode code 1071 = .ok (.iaload, 1) := dc9_46 (by decide +kernel)
theorem d_law_1072 : decode code 1072 = .ok (.invokevirtual 146, 3) := dc9_182 (by decide +kernel)
theorem d_law_1075 : decode code 1075 = .ok (.if_icmp .eq 80, 3) := dc9_159 (by decide +kernel)
theorem d_law_1080 : decode code 1080 = .ok (.aload_n 1, 1) := dc9_43 (by decide +kernel)
theorem d_law_1081 : decode code 1081 = .ok (.aload_n 0, 1) := dc9_42 (by decide +kernel)
theorem d_law_1082 : decode code 1082 = .ok (.iload 4, 2) := dc9_21 (by decide +kernel)
theorem d_law_1084 : decode code 1084 = .ok (.iconst 1, 1) := dc9_4 (by decide +kernel)
theorem d_law_1085 : decode code 1085 = .ok (.iadd, 1) := dc9_96 (by decide +kernel)
theorem d_law_1086 : decode code 1086 = .ok (.iaload, 1) := dc9_46 (by decide +kernel)
theorem d_law_1087 : decode code 1087 = .ok (.invokevirtual 147, 3) := dc9_182 (by decide +kernel)
theorem d_law_1090 : decode code 1090 = .ok (.aload_n 2, 1) := dc9_44 (by decide +kernel)
theorem d_law_1091 : decode code 1091 = .ok (.aload_n 0, 1) := dc9_42 (by decide +kernel)
theorem d_law_1092 : decode code 1092 = .ok (.iload 4, 2) := dc9_21 (by decide +kernel)
theorem d_law_1094 : decode code 1094 = .ok (.iconst 1, 1) := dc9_4 (by decide +kernel)
theorem d_law_1095 : decode code 1095 = .ok (.iadd, 1) := dc9_96 (by decide +kernel)
theorem d_law_1096 : decode code 1096 = .ok (.iaload, 1) := dc9_46 (by decide +kernel)
theorem d_law_1097 : decode code 1097 = .ok (.invokevirtual 150, 3) := dc9_182 (by decide +kernel)
theorem d_law_1100 : decode code 1100 = .ok (.if_icmp .eq 55, 3) := dc9_159 (by decide +kernel)
set_option maxHeartbeats 4000000 in
set_option maxRecDepth 100000 in
theorem law_case_13 {p : Program} {l : Launch} {e : Env} {s : State} {m : MethodId} {below : List Frame} {meth : Method} {c : Code} {D : va_G} {tA : Nat → ClassId} {A : Nat → Prop} {b oa : Nat} {xs : Nat → Int32} {Q : State → Prop} {x0 a_q8 a_q19 a_q30 a_q41 a_q52 a_q78 a_q89 a_q104 a_q115 a_q126 a_q137 a_q148 a_q159 a_q173 a_q78_q8 a_q78_q17 a_q78_q26 a_q78_q35 a_q78_q44 a_q78_q53 a_q78_q62 a_q78_q71 a_q78_q80 a_q78_q86 a_q78_q100 a_q78_q108 a_q78_q116 y0 b_q5 b_q16 b_q27 b_q38 b_q49 b_q60 b_q71 b_q82 b_q98 b_q109 b_q120 b_q131 b_q142 b_q153 b_q167 b_q176 b_q182 b_q195 b_q203 b_q211 b_q219 b_q233 b_q242 b_q251 b_q260 b_q266 b_q277 b_q288 b_q299 b_q310 b_q324 b_q333 b_q342 b_q350 b_q358 b_q366 b_q375 : Nat} {H : Heap} {locs : List Loc} {ls : Array Slot} (htr : l.stackTraces = false) (hx : p.tables.exec = Jvm.exec) (hb : c.code = code) (hml : c.maxLocals = 7) (hh : zH s) (hg : ∀ w ∈ lw_R, w.before #[Value.ref b] s = true) (hown : s.vm.findClass "ChanceArenaLaw" = some m.cls) (hK : va_K D vwCl (zT tA) s) (hA : ∀ q, s.heap.size ≤ q → A q) (hAn : ∀ q, q < s.heap.size → ¬ A q) (h2 : zS2 s.heap.size s s.heap) (hN : va_Nc "java/lang/IllegalStateException" "java/lang/IllegalArgumentException" s) (hX : va_X b 6 xs s s.heap) (hbl : b < s.heap.size) (hP : va_P D vwCl [(x0, .inr (0, [.ref a_q8, .int 0, .ref a_q19, .ref a_q30, .ref a_q41, .ref a_q52, .int 0, .int (-1), .int (-1), .ref a_q78, .ref a_q89, .ref a_q104, .ref a_q115, .ref a_q126, .ref a_q137, .ref a_q148, .ref a_q159, .ref a_q173, .int 0])), (a_q78, .inr (6, [.int 0, .ref a_q78_q8, .ref a_q78_q17, .ref a_q78_q26, .ref a_q78_q35, .ref a_q78_q44, .ref a_q78_q53, .ref a_q78_q62, .ref a_q78_q71, .ref a_q78_q80, .int 0, .int 0, .int 0, .int 0, .null, .ref a_q78_q86, .ref a_q78_q100, .ref a_q78_q108, .ref a_q78_q116])), (a_q78_q35, .inl (tA 0, 513, .inl (fun _ => 0))), (y0, .inr (13, [.int 0, .ref b_q5, .ref b_q16, .ref b_q27, .ref b_q38, .ref b_q49, .ref b_q60, .int 0, .int 0, .ref b_q71, .ref b_q82, .int 0, .int (-1), .ref b_q98, .ref b_q109, .ref b_q120, .int 0, .int 0, .ref b_q131, .ref b_q142, .ref b_q153, .ref b_q167, .ref b_q176, .int 0, .ref b_q182, .ref b_q195, .ref b_q203, .ref b_q211, .ref b_q219, .int 0, .int (-1), .ref b_q233, .ref b_q242, .ref b_q251, .ref b_q260, .ref b_q266, .ref b_q277, .ref b_q288, .ref b_q299, .ref b_q310, .int 0, .ref b_q324, .ref b_q333, .ref b_q342, .ref b_q350, .ref b_q358, .ref b_q366, .ref b_q375, .int 0]))] H) (hD : va_D A [(x0, .inr (0, [.ref a_q8, .int 0, .ref a_q19, .ref a_q30, .ref a_q41, .ref a_q52, .int 0, .int (-1), .int (-1), .ref a_q78, .ref a_q89, .ref a_q104, .ref a_q115, .ref a_q126, .ref a_q137, .ref a_q148, .ref a_q159, .ref a_q173, .int 0])), (a_q78, .inr (6, [.int 0, .ref a_q78_q8, .ref a_q78_q17, .ref a_q78_q26, .ref a_q78_q35, .ref a_q78_q44, .ref a_q78_q53, .ref a_q78_q62, .ref a_q78_q71, .ref a_q78_q80, .int 0, .int 0, .int 0, .int 0, .null, .ref a_q78_q86, .ref a_q78_q100, .ref a_q78_q108, .ref a_q78_q116])), (a_q78_q35, .inl (tA 0, 513, .inl (fun _ => 0))), (y0, .inr (13, [.int 0, .ref b_q5, .ref b_q16, .ref b_q27, .ref b_q38, .ref b_q49, .ref b_q60, .int 0, .int 0, .ref b_q71, .ref b_q82, .int 0, .int (-1), .ref b_q98, .ref b_q109, .ref b_q120, .int 0, .int 0, .ref b_q131, .ref b_q142, .ref b_q153, .ref b_q167, .ref b_q176, .int 0, .ref b_q182, .ref b_q195, .ref b_q203, .ref b_q211, .ref b_q219, .int 0, .int (-1), .ref b_q233, .ref b_q242, .ref b_q251, .ref b_q260, .ref b_q266, .ref b_q277, .ref b_q288, .ref b_q299, .ref b_q310, .int 0, .ref b_q324, .ref b_q333, .ref b_q342, .ref b_q350, .ref b_q358, .ref b_q366, .ref b_q375, .int 0]))]) (hS : va_S A s.heap H locs) (hl : lv_has ls 7 [(4, .int 0), (3, .ref oa), (2, .ref y0), (1, .ref x0), (0, .ref b)])
    (kk : ∀ (H1 : Heap) (locs1 : List Loc) (ls1 : Array Slot) (c1 s1 : Nat), c1 ≤ 600002 → s1 ≤ 7302231 → va_S A s.heap H1 locs1 → lv_has ls1 7 [(4, .int 0), (0, .ref b)] → W p l e room_1 s m #[Value.ref b] below meth c H1 locs1 c1 s1 Q (F0 m 1155 ls1 [])) :
    W p l e room_1 s m #[Value.ref b] below meth c H locs 21429 651797 Q (F0 m 606 ls []) := by
  refine lv_aload_n hx hb d_law_606 rfl (lv_at hl 3 rfl) ?_
  refine lv_aload_n hx hb d_law_607 rfl (lv_at hl 4 rfl) ?_
  refine lv_iload hx hb d_law_608 (lv_at hl 0 rfl) ?_
  refine lv_iconst (v := 1) hx hb d_law_610 (by decide) ?_
  refine lv_iadd hx hb d_law_611 ?_
  rw [show (0 : Int32) + 1 = 1 from by decide]
  refine va_sld hx hb hX hbl (hAn b hbl) hS (vp_in_iff.mpr (by decide)) d_law_612 ?_
  refine W.eq (g2 := F0 m 613 ls [.int (xs 1), .ref x0]) rfl ?_
  refine lv_aload_n hx hb d_law_613 rfl (lv_at hl 4 rfl) ?_
  refine lv_iload hx hb d_law_614 (lv_at hl 0 rfl) ?_
  refine lv_iconst (v := 2) hx hb d_law_616 (by decide) ?_
  refine lv_iadd hx hb d_law_617 ?_
  rw [show (0 : Int32) + 2 = 2 from by decide]
  refine va_sld hx hb hX hbl (hAn b hbl) hS (vp_in_iff.mpr (by decide)) d_law_618 ?_
  refine W.eq (g2 := F0 m 619 ls [.int (xs 2), .int (xs 1), .ref x0]) rfl ?_
  refine lv_aload_n hx hb d_law_619 rfl (lv_at hl 4 rfl) ?_
  refine lv_iload hx hb d_law_620 (lv_at hl 0 rfl) ?_
  refine lv_iconst (v := 3) hx hb d_law_622 (by decide) ?_
  refine lv_iadd hx hb d_law_623 ?_
  rw [show (0 : Int32) + 3 = 3 from by decide]
  refine va_sld hx hb hX hbl (hAn b hbl) hS (vp_in_iff.mpr (by decide)) d_law_624 ?_
  refine W.eq (g2 := F0 m 625 ls [.int (xs 3), .int (xs 2), .int (xs 1), .ref x0]) rfl ?_
  refine lv_aload_n hx hb d_law_625 rfl (lv_at hl 4 rfl) ?_
  refine lv_iload hx hb d_law_626 (lv_at hl 0 rfl) ?_
  refine lv_iconst (v := 4) hx hb d_law_628 (by decide) ?_
  refine lv_iadd hx hb d_law_629 ?_
  rw [show (0 : Int32) + 4 = 4 from by decide]
  refine va_sld hx hb hX hbl (hAn b hbl) hS (vp_in_iff.mpr (by decide)) d_law_630 ?_
  refine W.eq (g2 := F0 m 631 ls [.int (xs 4), .int (xs 3), .int (xs 2), .int (xs 1), .ref x0]) rfl ?_
  refine zCallp hP hS hA (va_runV (As := [.int (xs 1), .int (xs 2), .int (xs 3), .int (xs 4)]) (rest := []) ⟨hx, hb, hml, hown, hg⟩ (c_CA_branch_0 l D tA _ x0 a_q78 [.ref a_q8, .int 0, .ref a_q19, .ref a_q30, .ref a_q41, .ref a_q52, .int 0, .int (-1), .int (-1), .ref a_q78, .ref a_q89, .ref a_q104, .ref a_q115, .ref a_q126, .ref a_q137, .ref a_q148, .ref a_q159, .ref a_q173, .int 0] [.int 0, .ref a_q78_q8, .ref a_q78_q17, .ref a_q78_q26, .ref a_q78_q35, .ref a_q78_q44, .ref a_q78_q53, .ref a_q78_q62, .ref a_q78_q71, .ref a_q78_q80, .int 0, .int 0, .int 0, .int 0, .null, .ref a_q78_q86, .ref a_q78_q100, .ref a_q78_q108, .ref a_q78_q116] rfl rfl a_q78_q35 (fun _ => 0) rfl (xs 1) (xs 2) (xs 3) (xs 4)) (zV 4 hg k5_170 k5_171 k5_172 k1_1 k5_173 rfl rfl (by decide +kernel) ⟨(Nat.le_of_ble_eq_true rfl), (Nat.le_of_ble_eq_true rfl)⟩) (zPreV hh hK hP hD [0, 1, 2] (by decide) rfl (ci := 0) rfl 0 rfl) rfl rfl hl.1 rfl (lv_room (Nat.le_of_ble_eq_true rfl)) d_law_631 ⟨(Nat.le_of_ble_eq_true rfl), (Nat.le_of_ble_eq_true rfl)⟩) (fun r9 H1 locs1 e9 hP1 hS1 => ?_)
  clear hP hS
  replace e9 : r9 = (-1) := e9
  subst e9
  refine lv_aload_n hx hb d_law_634 rfl (lv_at hl 2 rfl) ?_
  refine lv_aload_n hx hb d_law_635 rfl (lv_at hl 4 rfl) ?_
  refine lv_iload hx hb d_law_636 (lv_at hl 0 rfl) ?_
  refine lv_iconst (v := 1) hx hb d_law_638 (by decide) ?_
  refine lv_iadd hx hb d_law_639 ?_
  rw [show (0 : Int32) + 1 = 1 from by decide]
  refine va_sld hx hb hX hbl (hAn b hbl) hS1 (vp_in_iff.mpr (by decide)) d_law_640 ?_
  refine W.eq (g2 := F0 m 641 ls [.int (xs 1), .ref y0, .int (-1)]) rfl ?_
  refine lv_aload_n hx hb d_law_641 rfl (lv_at hl 4 rfl) ?_
  refine lv_iload hx hb d_law_642 (lv_at hl 0 rfl) ?_
  refine lv_iconst (v := 2) hx hb d_law_644 (by decide) ?_
  refine lv_iadd hx hb d_law_645 ?_
  rw [show (0 : Int32) + 2 = 2 from by decide]
  refine va_sld hx hb hX hbl (hAn b hbl) hS1 (vp_in_iff.mpr (by decide)) d_law_646 ?_
  refine W.eq (g2 := F0 m 647 ls [.int (xs 2), .int (xs 1), .ref y0, .int (-1)]) rfl ?_
  refine lv_aload_n hx hb d_law_647 rfl (lv_at hl 4 rfl) ?_
  refine lv_iload hx hb d_law_648 (lv_at hl 0 rfl) ?_
  refine lv_iconst (v := 3) hx hb d_law_650 (by decide) ?_
  refine lv_iadd hx hb d_law_651 ?_
  rw [show (0 : Int32) + 3 = 3 from by decide]
  refine va_sld hx hb hX hbl (hAn b hbl) hS1 (vp_in_iff.mpr (by decide)) d_law_652 ?_
  refine W.eq (g2 := F0 m 653 ls [.int (xs 3), .int (xs 2), .int (xs 1), .ref y0, .int (-1)]) rfl ?_
  refine lv_aload_n hx hb d_law_653 rfl (lv_at hl 4 rfl) ?_
  refine lv_iload hx hb d_law_654 (lv_at hl 0 rfl) ?_
  refine lv_iconst (v := 4) hx hb d_law_656 (by decide) ?_
  refine lv_iadd hx hb d_law_657 ?_
  rw [show (0 : Int32) + 4 = 4 from by decide]
  refine va_sld hx hb hX hbl (hAn b hbl) hS1 (vp_in_iff.mpr (by decide)) d_law_658 ?_
  refine W.eq (g2 := F0 m 659 ls [.int (xs 4), .int (xs 3), .int (xs 2), .int (xs 1), .ref y0, .int (-1)]) rfl ?_
  refine zCalli (wc := [(y0, .inr (13, [.int 0, .ref b_q5, .ref b_q16, .ref b_q27, .ref b_q38, .ref b_q49, .ref b_q60, .int 0, .int 0, .ref b_q71, .ref b_q82, .int 0, .int (-1), .ref b_q98, .ref b_q109, .ref b_q120, .int 0, .int 0, .ref b_q131, .ref b_q142, .ref b_q153, .ref b_q167, .ref b_q176, .int 0, .ref b_q182, .ref b_q195, .ref b_q203, .ref b_q211, .ref b_q219, .int 0, .int (-1), .ref b_q233, .ref b_q242, .ref b_q251, .ref b_q260, .ref b_q266, .ref b_q277, .ref b_q288, .ref b_q299, .ref b_q310, .int 0, .ref b_q324, .ref b_q333, .ref b_q342, .ref b_q350, .ref b_q358, .ref b_q366, .ref b_q375, .int 0]))]) (wr := [(x0, .inr (0, [.ref a_q8, .int 0, .ref a_q19, .ref a_q30, .ref a_q41, .ref a_q52, .int 0, .int (-1), .int (-1), .ref a_q78, .ref a_q89, .ref a_q104, .ref a_q115, .ref a_q126, .ref a_q137, .ref a_q148, .ref a_q159, .ref a_q173, .int 0])), (a_q78, .inr (6, [.int 0, .ref a_q78_q8, .ref a_q78_q17, .ref a_q78_q26, .ref a_q78_q35, .ref a_q78_q44, .ref a_q78_q53, .ref a_q78_q62, .ref a_q78_q71, .ref a_q78_q80, .int 0, .int 0, .int 0, .int 0, .null, .ref a_q78_q86, .ref a_q78_q100, .ref a_q78_q108, .ref a_q78_q116])), (a_q78_q35, .inl (tA 0, 513, .inl (fun _ => 0)))]) hP1 hD hS1 hA [3] [0, 1, 2] rfl rfl (by decide) (by decide) (va_runV (As := [.int (xs 1), .int (xs 2), .int (xs 3), .int (xs 4)]) (rest := [.int (-1)]) ⟨hx, hb, hml, hown, hg⟩ (c_MM_branch_0 l D tA _ y0 [.int 0, .ref b_q5, .ref b_q16, .ref b_q27, .ref b_q38, .ref b_q49, .ref b_q60, .int 0, .int 0, .ref b_q71, .ref b_q82, .int 0, .int (-1), .ref b_q98, .ref b_q109, .ref b_q120, .int 0, .int 0, .ref b_q131, .ref b_q142, .ref b_q153, .ref b_q167, .ref b_q176, .int 0, .ref b_q182, .ref b_q195, .ref b_q203, .ref b_q211, .ref b_q219, .int 0, .int (-1), .ref b_q233, .ref b_q242, .ref b_q251, .ref b_q260, .ref b_q266, .ref b_q277, .ref b_q288, .ref b_q299, .ref b_q310, .int 0, .ref b_q324, .ref b_q333, .ref b_q342, .ref b_q350, .ref b_q358, .ref b_q366, .ref b_q375, .int 0] 0 rfl (xs 1) (xs 2) (xs 3) (xs 4) rfl) (zV 4 hg k12_177 k12_178 k12_179 k1_14 k12_180 rfl rfl (by decide +kernel) ⟨(Nat.le_of_ble_eq_true rfl), (Nat.le_of_ble_eq_true rfl)⟩) (zPreV hh hK hP1 hD [3] (by decide) rfl (ci := 13) rfl 0 rfl) rfl rfl hl.1 rfl (lv_room (Nat.le_of_ble_eq_true rfl)) d_law_659 ⟨(Nat.le_of_ble_eq_true rfl), (Nat.le_of_ble_eq_true rfl)⟩) (fun r9 _ H2 locs2 e9 hP2 hD2 hS2 => ?_)
  clear hP1 hD hS1
  replace e9 : r9 = (-1) := e9
  subst e9
  replace hP2 : va_P D vwCl [(x0, .inr (0, [.ref a_q8, .int 0, .ref a_q19, .ref a_q30, .ref a_q41, .ref a_q52, .int 0, .int (-1), .int (-1), .ref a_q78, .ref a_q89, .ref a_q104, .ref a_q115, .ref a_q126, .ref a_q137, .ref a_q148, .ref a_q159, .ref a_q173, .int 0])), (a_q78, .inr (6, [.int 0, .ref a_q78_q8, .ref a_q78_q17, .ref a_q78_q26, .ref a_q78_q35, .ref a_q78_q44, .ref a_q78_q53, .ref a_q78_q62, .ref a_q78_q71, .ref a_q78_q80, .int 0, .int 0, .int 0, .int 0, .null, .ref a_q78_q86, .ref a_q78_q100, .ref a_q78_q108, .ref a_q78_q116])), (a_q78_q35, .inl (tA 0, 513, .inl (fun _ => 0))), (y0, .inr (13, [.int 0, .ref b_q5, .ref b_q16, .ref b_q27, .ref b_q38, .ref b_q49, .ref b_q60, .int 0, .int 0, .ref b_q71, .ref b_q82, .int 0, .int (-1), .ref b_q98, .ref b_q109, .ref b_q120, .int 0, .int 0, .ref b_q131, .ref b_q142, .ref b_q153, .ref b_q167, .ref b_q176, .int 0, .ref b_q182, .ref b_q195, .ref b_q203, .ref b_q211, .ref b_q219, .int 0, .int (-1), .ref b_q233, .ref b_q242, .ref b_q251, .ref b_q260, .ref b_q266, .ref b_q277, .ref b_q288, .ref b_q299, .ref b_q310, .int 0, .ref b_q324, .ref b_q333, .ref b_q342, .ref b_q350, .ref b_q358, .ref b_q366, .ref b_q375, .int 0]))] _ := hP2
  replace hD2 : va_D A [(x0, .inr (0, [.ref a_q8, .int 0, .ref a_q19, .ref a_q30, .ref a_q41, .ref a_q52, .int 0, .int (-1), .int (-1), .ref a_q78, .ref a_q89, .ref a_q104, .ref a_q115, .ref a_q126, .ref a_q137, .ref a_q148, .ref a_q159, .ref a_q173, .int 0])), (a_q78, .inr (6, [.int 0, .ref a_q78_q8, .ref a_q78_q17, .ref a_q78_q26, .ref a_q78_q35, .ref a_q78_q44, .ref a_q78_q53, .ref a_q78_q62, .ref a_q78_q71, .ref a_q78_q80, .int 0, .int 0, .int 0, .int 0, .null, .ref a_q78_q86, .ref a_q78_q100, .ref a_q78_q108, .ref a_q78_q116])), (a_q78_q35, .inl (tA 0, 513, .inl (fun _ => 0))), (y0, .inr (13, [.int 0, .ref b_q5, .ref b_q16, .ref b_q27, .ref b_q38, .ref b_q49, .ref b_q60, .int 0, .int 0, .ref b_q71, .ref b_q82, .int 0, .int (-1), .ref b_q98, .ref b_q109, .ref b_q120, .int 0, .int 0, .ref b_q131, .ref b_q142, .ref b_q153, .ref b_q167, .ref b_q176, .int 0, .ref b_q182, .ref b_q195, .ref b_q203, .ref b_q211, .ref b_q219, .int 0, .int (-1), .ref b_q233, .ref b_q242, .ref b_q251, .ref b_q260, .ref b_q266, .ref b_q277, .ref b_q288, .ref b_q299, .ref b_q310, .int 0, .ref b_q324, .ref b_q333, .ref b_q342, .ref b_q350, .ref b_q358, .ref b_q366, .ref b_q375, .int 0]))] := hD2
  refine lv_icmp_eq (tgt := 1155) hx hb d_law_662 (by decide) (fun _ => ?_) (fun c9 => absurd rfl c9)
  exact kk _ _ _ _ _ (Nat.le_of_ble_eq_true rfl) (Nat.le_of_ble_eq_true rfl) hS2 (lv_sub hl [0, 4] rfl)
set_option maxHeartbeats 4000000 in
set_option maxRecDepth 100000 in
theorem law_case_23 {p : Program} {l : Launch} {e : Env} {s : State} {m : MethodId} {below : List Frame} {meth : Method} {c : Code} {D : va_G} {tA : Nat → ClassId} {A : Nat → Prop} {b oa : Nat} {xs : Nat → Int32} {Q : State → Prop} {x0 a_q8 a_q19 a_q30 a_q41 a_q52 a_q78 a_q89 a_q104 a_q115 a_q126 a_q137 a_q148 a_q159 a_q173 a_q104_q6 y0 b_q5 b_q16 b_q27 b_q38 b_q49 b_q60 b_q71 b_q82 b_q98 b_q109 b_q120 b_q131 b_q142 b_q153 b_q167 b_q176 b_q182 b_q195 b_q203 b_q211 b_q219 b_q233 b_q242 b_q251 b_q260 b_q266 b_q277 b_q288 b_q299 b_q310 b_q324 b_q333 b_q342 b_q350 b_q358 b_q366 b_q375 : Nat} {H : Heap} {locs : List Loc} {ls : Array Slot} (htr : l.stackTraces = false) (hx : p.tables.exec = Jvm.exec) (hb : c.code = code) (hml : c.maxLocals = 7) (hh : zH s) (hg : ∀ w ∈ lw_R, w.before #[Value.ref b] s = true) (hown : s.vm.findClass "ChanceArenaLaw" = some m.cls) (hK : va_K D vwCl (zT tA) s) (hA : ∀ q, s.heap.size ≤ q → A q) (hAn : ∀ q, q < s.heap.size → ¬ A q) (h2 : zS2 s.heap.size s s.heap) (hN : va_Nc "java/lang/IllegalStateException" "java/lang/IllegalArgumentException" s) (hX : va_X b 6 xs s s.heap) (hbl : b < s.heap.size) (hP : va_P D vwCl [(x0, .inr (0, [.ref a_q8, .int 0, .ref a_q19, .ref a_q30, .ref a_q41, .ref a_q52, .int 0, .int (-1), .int (-1), .ref a_q78, .ref a_q89, .ref a_q104, .ref a_q115, .ref a_q126, .ref a_q137, .ref a_q148, .ref a_q159, .ref a_q173, .int 0])), (a_q104, .inr (12, [.ref a_q104_q6, .int 0])), (y0, .inr (13, [.int 0, .ref b_q5, .ref b_q16, .ref b_q27, .ref b_q38, .ref b_q49, .ref b_q60, .int 0, .int 0, .ref b_q71, .ref b_q82, .int 0, .int (-1), .ref b_q98, .ref b_q109, .ref b_q120, .int 0, .int 0, .ref b_q131, .ref b_q142, .ref b_q153, .ref b_q167, .ref b_q176, .int 0, .ref b_q182, .ref b_q195, .ref b_q203, .ref b_q211, .ref b_q219, .int 0, .int (-1), .ref b_q233, .ref b_q242, .ref b_q251, .ref b_q260, .ref b_q266, .ref b_q277, .ref b_q288, .ref b_q299, .ref b_q310, .int 0, .ref b_q324, .ref b_q333, .ref b_q342, .ref b_q350, .ref b_q358, .ref b_q366, .ref b_q375, .int 0]))] H) (hD : va_D A [(x0, .inr (0, [.ref a_q8, .int 0, .ref a_q19, .ref a_q30, .ref a_q41, .ref a_q52, .int 0, .int (-1), .int (-1), .ref a_q78, .ref a_q89, .ref a_q104, .ref a_q115, .ref a_q126, .ref a_q137, .ref a_q148, .ref a_q159, .ref a_q173, .int 0])), (a_q104, .inr (12, [.ref a_q104_q6, .int 0])), (y0, .inr (13, [.int 0, .ref b_q5, .ref b_q16, .ref b_q27, .ref b_q38, .ref b_q49, .ref b_q60, .int 0, .int 0, .ref b_q71, .ref b_q82, .int 0, .int (-1), .ref b_q98, .ref b_q109, .ref b_q120, .int 0, .int 0, .ref b_q131, .ref b_q142, .ref b_q153, .ref b_q167, .ref b_q176, .int 0, .ref b_q182, .ref b_q195, .ref b_q203, .ref b_q211, .ref b_q219, .int 0, .int (-1), .ref b_q233, .ref b_q242, .ref b_q251, .ref b_q260, .ref b_q266, .ref b_q277, .ref b_q288, .ref b_q299, .ref b_q310, .int 0, .ref b_q324, .ref b_q333, .ref b_q342, .ref b_q350, .ref b_q358, .ref b_q366, .ref b_q375, .int 0]))]) (hS : va_S A s.heap H locs) (hl : lv_has ls 7 [(4, .int 0), (3, .ref oa), (2, .ref y0), (1, .ref x0), (0, .ref b)])
    (kk : ∀ (H1 : Heap) (locs1 : List Loc) (ls1 : Array Slot) (c1 s1 : Nat), c1 ≤ 600002 → s1 ≤ 7302231 → va_S A s.heap H1 locs1 → lv_has ls1 7 [(4, .int 0), (0, .ref b)] → W p l e room_1 s m #[Value.ref b] below meth c H1 locs1 c1 s1 Q (F0 m 1155 ls1 [])) :
    W p l e room_1 s m #[Value.ref b] below meth c H locs 21429 651797 Q (F0 m 1055 ls []) := by
  refine lv_aload_n hx hb d_law_1055 rfl (lv_at hl 3 rfl) ?_
  refine lv_aload_n hx hb d_law_1056 rfl (lv_at hl 4 rfl) ?_
  refine lv_iload hx hb d_law_1057 (lv_at hl 0 rfl) ?_
  refine lv_iconst (v := 1) hx hb d_law_1059 (by decide) ?_
  refine lv_iadd hx hb d_law_1060 ?_
  rw [show (0 : Int32) + 1 = 1 from by decide]
  refine va_sld hx hb hX hbl (hAn b hbl) hS (vp_in_iff.mpr (by decide)) d_law_1061 ?_
  refine W.eq (g2 := F0 m 1062 ls [.int (xs 1), .ref x0]) rfl ?_
  refine zCallp hP hS hA (va_runV (As := [.int (xs 1)]) (rest := []) ⟨hx, hb, hml, hown, hg⟩ (c_CA_choice_0 l D tA _ x0 [.ref a_q8, .int 0, .ref a_q19, .ref a_q30, .ref a_q41, .ref a_q52, .int 0, .int (-1), .int (-1), .ref a_q78, .ref a_q89, .ref a_q104, .ref a_q115, .ref a_q126, .ref a_q137, .ref a_q148, .ref a_q159, .ref a_q173, .int 0] a_q104 [.ref a_q104_q6, .int 0] rfl rfl (xs 1)) (zV 1 hg k7_129 k7_130 k7_131 k1_1 k7_132 rfl rfl (by decide +kernel) ⟨(Nat.le_of_ble_eq_true rfl), (Nat.le_of_ble_eq_true rfl)⟩) (zPreV hh hK hP hD [0, 1] (by decide) rfl (ci := 0) rfl 0 rfl) rfl rfl hl.1 rfl (lv_room (Nat.le_of_ble_eq_true rfl)) d_law_1062 ⟨(Nat.le_of_ble_eq_true rfl), (Nat.le_of_ble_eq_true rfl)⟩) (fun r9 H1 locs1 e9 hP1 hS1 => ?_)
  clear hP hS
  replace e9 : r9 = (-1) := e9
  subst e9
  refine lv_aload_n hx hb d_law_1065 rfl (lv_at hl 2 rfl) ?_
  refine lv_aload_n hx hb d_law_1066 rfl (lv_at hl 4 rfl) ?_
  refine lv_iload hx hb d_law_1067 (lv_at hl 0 rfl) ?_
  refine lv_iconst (v := 1) hx hb d_law_1069 (by decide) ?_
  refine lv_iadd hx hb d_law_1070 ?_
  rw [show (0 : Int32) + 1 = 1 from by decide]
  refine va_sld hx hb hX hbl (hAn b hbl) hS1 (vp_in_iff.mpr (by decide)) d_law_1071 ?_
  refine W.eq (g2 := F0 m 1072 ls [.int (xs 1), .ref y0, .int (-1)]) rfl ?_
  refine zCalli (wc := [(y0, .inr (13, [.int 0, .ref b_q5, .ref b_q16, .ref b_q27, .ref b_q38, .ref b_q49, .ref b_q60, .int 0, .int 0, .ref b_q71, .ref b_q82, .int 0, .int (-1), .ref b_q98, .ref b_q109, .ref b_q120, .int 0, .int 0, .ref b_q131, .ref b_q142, .ref b_q153, .ref b_q167, .ref b_q176, .int 0, .ref b_q182, .ref b_q195, .ref b_q203, .ref b_q211, .ref b_q219, .int 0, .int (-1), .ref b_q233, .ref b_q242, .ref b_q251, .ref b_q260, .ref b_q266, .ref b_q277, .ref b_q288, .ref b_q299, .ref b_q310, .int 0, .ref b_q324, .ref b_q333, .ref b_q342, .ref b_q350, .ref b_q358, .ref b_q366, .ref b_q375, .int 0]))]) (wr := [(x0, .inr (0, [.ref a_q8, .int 0, .ref a_q19, .ref a_q30, .ref a_q41, .ref a_q52, .int 0, .int (-1), .int (-1), .ref a_q78, .ref a_q89, .ref a_q104, .ref a_q115, .ref a_q126, .ref a_q137, .ref a_q148, .ref a_q159, .ref a_q173, .int 0])), (a_q104, .inr (12, [.ref a_q104_q6, .int 0]))]) hP1 hD hS1 hA [2] [0, 1] rfl rfl (by decide) (by decide) (va_runV (As := [.int (xs 1)]) (rest := [.int (-1)]) ⟨hx, hb, hml, hown, hg⟩ (c_MM_choice_0 l D tA _ y0 [.int 0, .ref b_q5, .ref b_q16, .ref b_q27, .ref b_q38, .ref b_q49, .ref b_q60, .int 0, .int 0, .ref b_q71, .ref b_q82, .int 0, .int (-1), .ref b_q98, .ref b_q109, .ref b_q120, .int 0, .int 0, .ref b_q131, .ref b_q142, .ref b_q153, .ref b_q167, .ref b_q176, .int 0, .ref b_q182, .ref b_q195, .ref b_q203, .ref b_q211, .ref b_q219, .int 0, .int (-1), .ref b_q233, .ref b_q242, .ref b_q251, .ref b_q260, .ref b_q266, .ref b_q277, .ref b_q288, .ref b_q299, .ref b_q310, .int 0, .ref b_q324, .ref b_q333, .ref b_q342, .ref b_q350, .ref b_q358, .ref b_q366, .ref b_q375, .int 0] 0 rfl (xs 1) rfl) (zV 1 hg k13_238 k13_239 k14_0 k1_14 k14_1 rfl rfl (by decide +kernel) ⟨(Nat.le_of_ble_eq_true rfl), (Nat.le_of_ble_eq_true rfl)⟩) (zPreV hh hK hP1 hD [2] (by decide) rfl (ci := 13) rfl 0 rfl) rfl rfl hl.1 rfl (lv_room (Nat.le_of_ble_eq_true rfl)) d_law_1072 ⟨(Nat.le_of_ble_eq_true rfl), (Nat.le_of_ble_eq_true rfl)⟩) (fun r9 _ H2 locs2 e9 hP2 hD2 hS2 => ?_)
  clear hP1 hD hS1
  replace e9 : r9 = (-1) := e9
  subst e9
  replace hP2 : va_P D vwCl [(x0, .inr (0, [.ref a_q8, .int 0, .ref a_q19, .ref a_q30, .ref a_q41, .ref a_q52, .int 0, .int (-1), .int (-1), .ref a_q78, .ref a_q89, .ref a_q104, .ref a_q115, .ref a_q126, .ref a_q137, .ref a_q148, .ref a_q159, .ref a_q173, .int 0])), (a_q104, .inr (12, [.ref a_q104_q6, .int 0])), (y0, .inr (13, [.int 0, .ref b_q5, .ref b_q16, .ref b_q27, .ref b_q38, .ref b_q49, .ref b_q60, .int 0, .int 0, .ref b_q71, .ref b_q82, .int 0, .int (-1), .ref b_q98, .ref b_q109, .ref b_q120, .int 0, .int 0, .ref b_q131, .ref b_q142, .ref b_q153, .ref b_q167, .ref b_q176, .int 0, .ref b_q182, .ref b_q195, .ref b_q203, .ref b_q211, .ref b_q219, .int 0, .int (-1), .ref b_q233, .ref b_q242, .ref b_q251, .ref b_q260, .ref b_q266, .ref b_q277, .ref b_q288, .ref b_q299, .ref b_q310, .int 0, .ref b_q324, .ref b_q333, .ref b_q342, .ref b_q350, .ref b_q358, .ref b_q366, .ref b_q375, .int 0]))] _ := hP2
  replace hD2 : va_D A [(x0, .inr (0, [.ref a_q8, .int 0, .ref a_q19, .ref a_q30, .ref a_q41, .ref a_q52, .int 0, .int (-1), .int (-1), .ref a_q78, .ref a_q89, .ref a_q104, .ref a_q115, .ref a_q126, .ref a_q137, .ref a_q148, .ref a_q159, .ref a_q173, .int 0])), (a_q104, .inr (12, [.ref a_q104_q6, .int 0])), (y0, .inr (13, [.int 0, .ref b_q5, .ref b_q16, .ref b_q27, .ref b_q38, .ref b_q49, .ref b_q60, .int 0, .int 0, .ref b_q71, .ref b_q82, .int 0, .int (-1), .ref b_q98, .ref b_q109, .ref b_q120, .int 0, .int 0, .ref b_q131, .ref b_q142, .ref b_q153, .ref b_q167, .ref b_q176, .int 0, .ref b_q182, .ref b_q195, .ref b_q203, .ref b_q211, .ref b_q219, .int 0, .int (-1), .ref b_q233, .ref b_q242, .ref b_q251, .ref b_q260, .ref b_q266, .ref b_q277, .ref b_q288, .ref b_q299, .ref b_q310, .int 0, .ref b_q324, .ref b_q333, .ref b_q342, .ref b_q350, .ref b_q358, .ref b_q366, .ref b_q375, .int 0]))] := hD2
  refine lv_icmp_eq (tgt := 1155) hx hb d_law_1075 (by decide) (fun _ => ?_) (fun c9 => absurd rfl c9)
  exact kk _ _ _ _ _ (Nat.le_of_ble_eq_true rfl) (Nat.le_of_ble_eq_true rfl) hS2 (lv_sub hl [0, 4] rfl)
set_option maxHeartbeats 4000000 in
set_option maxRecDepth 100000 in
theorem law_case_24 {p : Program} {l : Launch} {e : Env} {s : State} {m : MethodId} {below : List Frame} {meth : Method} {c : Code} {D : va_G} {tA : Nat → ClassId} {A : Nat → Prop} {b oa : Nat} {xs : Nat → Int32} {Q : State → Prop} {x0 a_q8 a_q19 a_q30 a_q41 a_q52 a_q78 a_q89 a_q104 a_q115 a_q126 a_q137 a_q148 a_q159 a_q173 a_q104_q6 y0 b_q5 b_q16 b_q27 b_q38 b_q49 b_q60 b_q71 b_q82 b_q98 b_q109 b_q120 b_q131 b_q142 b_q153 b_q167 b_q176 b_q182 b_q195 b_q203 b_q211 b_q219 b_q233 b_q242 b_q251 b_q260 b_q266 b_q277 b_q288 b_q299 b_q310 b_q324 b_q333 b_q342 b_q350 b_q358 b_q366 b_q375 : Nat} {H : Heap} {locs : List Loc} {ls : Array Slot} (htr : l.stackTraces = false) (hx : p.tables.exec = Jvm.exec) (hb : c.code = code) (hml : c.maxLocals = 7) (hh : zH s) (hg : ∀ w ∈ lw_R, w.before #[Value.ref b] s = true) (hown : s.vm.findClass "ChanceArenaLaw" = some m.cls) (hK : va_K D vwCl (zT tA) s) (hA : ∀ q, s.heap.size ≤ q → A q) (hAn : ∀ q, q < s.heap.size → ¬ A q) (h2 : zS2 s.heap.size s s.heap) (hN : va_Nc "java/lang/IllegalStateException" "java/lang/IllegalArgumentException" s) (hX : va_X b 6 xs s s.heap) (hbl : b < s.heap.size) (hP : va_P D vwCl [(x0, .inr (0, [.ref a_q8, .int 0, .ref a_q19, .ref a_q30, .ref a_q41, .ref a_q52, .int 0, .int (-1), .int (-1), .ref a_q78, .ref a_q89, .ref a_q104, .ref a_q115, .ref a_q126, .ref a_q137, .ref a_q148, .ref a_q159, .ref a_q173, .int 0])), (a_q104, .inr (12, [.ref a_q104_q6, .int 0])), (y0, .inr (13, [.int 0, .ref b_q5, .ref b_q16, .ref b_q27, .ref b_q38, .ref b_q49, .ref b_q60, .int 0, .int 0, .ref b_q71, .ref b_q82, .int 0, .int (-1), .ref b_q98, .ref b_q109, .ref b_q120, .int 0, .int 0, .ref b_q131, .ref b_q142, .ref b_q153, .ref b_q167, .ref b_q176, .int 0, .ref b_q182, .ref b_q195, .ref b_q203, .ref b_q211, .ref b_q219, .int 0, .int (-1), .ref b_q233, .ref b_q242, .ref b_q251, .ref b_q260, .ref b_q266, .ref b_q277, .ref b_q288, .ref b_q299, .ref b_q310, .int 0, .ref b_q324, .ref b_q333, .ref b_q342, .ref b_q350, .ref b_q358, .ref b_q366, .ref b_q375, .int 0]))] H) (hD : va_D A [(x0, .inr (0, [.ref a_q8, .int 0, .ref a_q19, .ref a_q30, .ref a_q41, .ref a_q52, .int 0, .int (-1), .int (-1), .ref a_q78, .ref a_q89, .ref a_q104, .ref a_q115, .ref a_q126, .ref a_q137, .ref a_q148, .ref a_q159, .ref a_q173, .int 0])), (a_q104, .inr (12, [.ref a_q104_q6, .int 0])), (y0, .inr (13, [.int 0, .ref b_q5, .ref b_q16, .ref b_q27, .ref b_q38, .ref b_q49, .ref b_q60, .int 0, .int 0, .ref b_q71, .ref b_q82, .int 0, .int (-1), .ref b_q98, .ref b_q109, .ref b_q120, .int 0, .int 0, .ref b_q131, .ref b_q142, .ref b_q153, .ref b_q167, .ref b_q176, .int 0, .ref b_q182, .ref b_q195, .ref b_q203, .ref b_q211, .ref b_q219, .int 0, .int (-1), .ref b_q233, .ref b_q242, .ref b_q251, .ref b_q260, .ref b_q266, .ref b_q277, .ref b_q288, .ref b_q299, .ref b_q310, .int 0, .ref b_q324, .ref b_q333, .ref b_q342, .ref b_q350, .ref b_q358, .ref b_q366, .ref b_q375, .int 0]))]) (hS : va_S A s.heap H locs) (hl : lv_has ls 7 [(4, .int 0), (3, .ref oa), (2, .ref y0), (1, .ref x0), (0, .ref b)])
    (kk : ∀ (H1 : Heap) (locs1 : List Loc) (ls1 : Array Slot) (c1 s1 : Nat), c1 ≤ 600002 → s1 ≤ 7302231 → va_S A s.heap H1 locs1 → lv_has ls1 7 [(4, .int 0), (0, .ref b)] → W p l e room_1 s m #[Value.ref b] below meth c H1 locs1 c1 s1 Q (F0 m 1155 ls1 [])) :
    W p l e room_1 s m #[Value.ref b] below meth c H locs 21429 651797 Q (F0 m 1080 ls []) := by
  refine lv_aload_n hx hb d_law_1080 rfl (lv_at hl 3 rfl) ?_
  refine lv_aload_n hx hb d_law_1081 rfl (lv_at hl 4 rfl) ?_
  refine lv_iload hx hb d_law_1082 (lv_at hl 0 rfl) ?_
  refine lv_iconst (v := 1) hx hb d_law_1084 (by decide) ?_
  refine lv_iadd hx hb d_law_1085 ?_
  rw [show (0 : Int32) + 1 = 1 from by decide]
  refine va_sld hx hb hX hbl (hAn b hbl) hS (vp_in_iff.mpr (by decide)) d_law_1086 ?_
  refine W.eq (g2 := F0 m 1087 ls [.int (xs 1), .ref x0]) rfl ?_
  refine zCallp hP hS hA (va_runV (As := [.int (xs 1)]) (rest := []) ⟨hx, hb, hml, hown, hg⟩ (c_CA_rank_0 l D tA _ x0 [.ref a_q8, .int 0, .ref a_q19, .ref a_q30, .ref a_q41, .ref a_q52, .int 0, .int (-1), .int (-1), .ref a_q78, .ref a_q89, .ref a_q104, .ref a_q115, .ref a_q126, .ref a_q137, .ref a_q148, .ref a_q159, .ref a_q173, .int 0] a_q104 [.ref a_q104_q6, .int 0] rfl rfl (xs 1)) (zV 1 hg k7_133 k7_134 k7_135 k1_1 k7_136 rfl rfl (by decide +kernel) ⟨(Nat.le_of_ble_eq_true rfl), (Nat.le_of_ble_eq_true rfl)⟩) (zPreV hh hK hP hD [0, 1] (by decide) rfl (ci := 0) rfl 0 rfl) rfl rfl hl.1 rfl (lv_room (Nat.le_of_ble_eq_true rfl)) d_law_1087 ⟨(Nat.le_of_ble_eq_true rfl), (Nat.le_of_ble_eq_true rfl)⟩) (fun r9 H1 locs1 e9 hP1 hS1 => ?_)
  clear hP hS
  replace e9 : r9 = (-1) := e9
  subst e9
  refine lv_aload_n hx hb d_law_1090 rfl (lv_at hl 2 rfl) ?_
  refine lv_aload_n hx hb d_law_1091 rfl (lv_at hl 4 rfl) ?_
  refine lv_iload hx hb d_law_1092 (lv_at hl 0 rfl) ?_
  refine lv_iconst (v := 1) hx hb d_law_1094 (by decide) ?_
  refine lv_iadd hx hb d_law_1095 ?_
  rw [show (0 : Int32) + 1 = 1 from by decide]
  refine va_sld hx hb hX hbl (hAn b hbl) hS1 (vp_in_iff.mpr (by decide)) d_law_1096 ?_
  refine W.eq (g2 := F0 m 1097 ls [.int (xs 1), .ref y0, .int (-1)]) rfl ?_
  refine zCalli (wc := [(y0, .inr (13, [.int 0, .ref b_q5, .ref b_q16, .ref b_q27, .ref b_q38, .ref b_q49, .ref b_q60, .int 0, .int 0, .ref b_q71, .ref b_q82, .int 0, .int (-1), .ref b_q98, .ref b_q109, .ref b_q120, .int 0, .int 0, .ref b_q131, .ref b_q142, .ref b_q153, .ref b_q167, .ref b_q176, .int 0, .ref b_q182, .ref b_q195, .ref b_q203, .ref b_q211, .ref b_q219, .int 0, .int (-1), .ref b_q233, .ref b_q242, .ref b_q251, .ref b_q260, .ref b_q266, .ref b_q277, .ref b_q288, .ref b_q299, .ref b_q310, .int 0, .ref b_q324, .ref b_q333, .ref b_q342, .ref b_q350, .ref b_q358, .ref b_q366, .ref b_q375, .int 0]))]) (wr := [(x0, .inr (0, [.ref a_q8, .int 0, .ref a_q19, .ref a_q30, .ref a_q41, .ref a_q52, .int 0, .int (-1), .int (-1), .ref a_q78, .ref a_q89, .ref a_q104, .ref a_q115, .ref a_q126, .ref a_q137, .ref a_q148, .ref a_q159, .ref a_q173, .int 0])), (a_q104, .inr (12, [.ref a_q104_q6, .int 0]))]) hP1 hD hS1 hA [2] [0, 1] rfl rfl (by decide) (by decide) (va_runV (As := [.int (xs 1)]) (rest := [.int (-1)]) ⟨hx, hb, hml, hown, hg⟩ (c_MM_rank_0 l D tA _ y0 [.int 0, .ref b_q5, .ref b_q16, .ref b_q27, .ref b_q38, .ref b_q49, .ref b_q60, .int 0, .int 0, .ref b_q71, .ref b_q82, .int 0, .int (-1), .ref b_q98, .ref b_q109, .ref b_q120, .int 0, .int 0, .ref b_q131, .ref b_q142, .ref b_q153, .ref b_q167, .ref b_q176, .int 0, .ref b_q182, .ref b_q195, .ref b_q203, .ref b_q211, .ref b_q219, .int 0, .int (-1), .ref b_q233, .ref b_q242, .ref b_q251, .ref b_q260, .ref b_q266, .ref b_q277, .ref b_q288, .ref b_q299, .ref b_q310, .int 0, .ref b_q324, .ref b_q333, .ref b_q342, .ref b_q350, .ref b_q358, .ref b_q366, .ref b_q375, .int 0] 0 rfl (xs 1) rfl) (zV 1 hg k14_6 k14_7 k14_8 k1_14 k14_9 rfl rfl (by decide +kernel) ⟨(Nat.le_of_ble_eq_true rfl), (Nat.le_of_ble_eq_true rfl)⟩) (zPreV hh hK hP1 hD [2] (by decide) rfl (ci := 13) rfl 0 rfl) rfl rfl hl.1 rfl (lv_room (Nat.le_of_ble_eq_true rfl)) d_law_1097 ⟨(Nat.le_of_ble_eq_true rfl), (Nat.le_of_ble_eq_true rfl)⟩) (fun r9 _ H2 locs2 e9 hP2 hD2 hS2 => ?_)
  clear hP1 hD hS1
  replace e9 : r9 = (-1) := e9
  subst e9
  replace hP2 : va_P D vwCl [(x0, .inr (0, [.ref a_q8, .int 0, .ref a_q19, .ref a_q30, .ref a_q41, .ref a_q52, .int 0, .int (-1), .int (-1), .ref a_q78, .ref a_q89, .ref a_q104, .ref a_q115, .ref a_q126, .ref a_q137, .ref a_q148, .ref a_q159, .ref a_q173, .int 0])), (a_q104, .inr (12, [.ref a_q104_q6, .int 0])), (y0, .inr (13, [.int 0, .ref b_q5, .ref b_q16, .ref b_q27, .ref b_q38, .ref b_q49, .ref b_q60, .int 0, .int 0, .ref b_q71, .ref b_q82, .int 0, .int (-1), .ref b_q98, .ref b_q109, .ref b_q120, .int 0, .int 0, .ref b_q131, .ref b_q142, .ref b_q153, .ref b_q167, .ref b_q176, .int 0, .ref b_q182, .ref b_q195, .ref b_q203, .ref b_q211, .ref b_q219, .int 0, .int (-1), .ref b_q233, .ref b_q242, .ref b_q251, .ref b_q260, .ref b_q266, .ref b_q277, .ref b_q288, .ref b_q299, .ref b_q310, .int 0, .ref b_q324, .ref b_q333, .ref b_q342, .ref b_q350, .ref b_q358, .ref b_q366, .ref b_q375, .int 0]))] _ := hP2
  replace hD2 : va_D A [(x0, .inr (0, [.ref a_q8, .int 0, .ref a_q19, .ref a_q30, .ref a_q41, .ref a_q52, .int 0, .int (-1), .int (-1), .ref a_q78, .ref a_q89, .ref a_q104, .ref a_q115, .ref a_q126, .ref a_q137, .ref a_q148, .ref a_q159, .ref a_q173, .int 0])), (a_q104, .inr (12, [.ref a_q104_q6, .int 0])), (y0, .inr (13, [.int 0, .ref b_q5, .ref b_q16, .ref b_q27, .ref b_q38, .ref b_q49, .ref b_q60, .int 0, .int 0, .ref b_q71, .ref b_q82, .int 0, .int (-1), .ref b_q98, .ref b_q109, .ref b_q120, .int 0, .int 0, .ref b_q131, .ref b_q142, .ref b_q153, .ref b_q167, .ref b_q176, .int 0, .ref b_q182, .ref b_q195, .ref b_q203, .ref b_q211, .ref b_q219, .int 0, .int (-1), .ref b_q233, .ref b_q242, .ref b_q251, .ref b_q260, .ref b_q266, .ref b_q277, .ref b_q288, .ref b_q299, .ref b_q310, .int 0, .ref b_q324, .ref b_q333, .ref b_q342, .ref b_q350, .ref b_q358, .ref b_q366, .ref b_q375, .int 0]))] := hD2
  refine lv_icmp_eq (tgt := 1155) hx hb d_law_1100 (by decide) (fun _ => ?_) (fun c9 => absurd rfl c9)
  exact kk _ _ _ _ _ (Nat.le_of_ble_eq_true rfl) (Nat.le_of_ble_eq_true rfl) hS2 (lv_sub hl [0, 4] rfl)
