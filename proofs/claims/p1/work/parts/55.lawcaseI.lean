theorem k5_145 : (Jvm.Cond.methodLink "ChanceArenaLaw" (97 : Nat) ({ cls := "ChanceArena", name := "command", desc := "(II)I" } : Jvm.MethodName)) ∈ lw_R := zR (zk_5 _ (List.mem_of_getElem? (i := 145) (by decide +kernel))) rfl
theorem k5_146 : (Jvm.Cond.instanceMethod ({ cls := "ChanceArena", name := "command", desc := "(II)I" } : Jvm.MethodName)) ∈ lw_R := zR (zk_5 _ (List.mem_of_getElem? (i := 146) (by decide +kernel))) rfl
theorem k5_147 : (Jvm.Cond.selects "ChanceArena" ({ cls := "ChanceArena", name := "command", desc := "(II)I" } : Jvm.MethodName) ({ cls := "ChanceArena", name := "command", desc := "(II)I" } : Jvm.MethodName)) ∈ lw_R := zR (zk_5 _ (List.mem_of_getElem? (i := 147) (by decide +kernel))) rfl
theorem k5_154 : (Jvm.Cond.methodLink "ChanceArenaLaw" (101 : Nat) ({ cls := "ChanceArena", name := "branches", desc := "(II)I" } : Jvm.MethodName)) ∈ lw_R := zR (zk_5 _ (List.mem_of_getElem? (i := 154) (by decide +kernel))) rfl
theorem k5_155 : (Jvm.Cond.instanceMethod ({ cls := "ChanceArena", name := "branches", desc := "(II)I" } : Jvm.MethodName)) ∈ lw_R := zR (zk_5 _ (List.mem_of_getElem? (i := 155) (by decide +kernel))) rfl
theorem k5_156 : (Jvm.Cond.selects "ChanceArena" ({ cls := "ChanceArena", name := "branches", desc := "(II)I" } : Jvm.MethodName) ({ cls := "ChanceArena", name := "branches", desc := "(II)I" } : Jvm.MethodName)) ∈ lw_R := zR (zk_5 _ (List.mem_of_getElem? (i := 156) (by decide +kernel))) rfl
theorem k12_130 : (Jvm.Cond.methodLink "ChanceArenaLaw" (100 : Nat) ({ cls := "ChanceArenaModel", name := "command", desc := "(II)I" } : Jvm.MethodName)) ∈ lw_R := zR (zk_12 _ (List.mem_of_getElem? (i := 130) (by decide +kernel))) rfl
theorem k12_131 : (Jvm.Cond.instanceMethod ({ cls := "ChanceArenaModel", name := "command", desc := "(II)I" } : Jvm.MethodName)) ∈ lw_R := zR (zk_12 _ (List.mem_of_getElem? (i := 131) (by decide +kernel))) rfl
theorem k12_132 : (Jvm.Cond.selects "ChanceArenaModel" ({ cls := "ChanceArenaModel", name := "command", desc := "(II)I" } : Jvm.MethodName) ({ cls := "ChanceArenaModel", name := "command", desc := "(II)I" } : Jvm.MethodName)) ∈ lw_R := zR (zk_12 _ (List.mem_of_getElem? (i := 132) (by decide +kernel))) rfl
theorem k12_138 : (Jvm.Cond.methodLink "ChanceArenaLaw" (104 : Nat) ({ cls := "ChanceArenaModel", name := "branches", desc := "(II)I" } : Jvm.MethodName)) ∈ lw_R := zR (zk_12 _ (List.mem_of_getElem? (i := 138) (by decide +kernel))) rfl
theorem k12_139 : (Jvm.Cond.instanceMethod ({ cls := "ChanceArenaModel", name := "branches", desc := "(II)I" } : Jvm.MethodName)) ∈ lw_R := zR (zk_12 _ (List.mem_of_getElem? (i := 139) (by decide +kernel))) rfl
theorem k12_140 : (Jvm.Cond.selects "ChanceArenaModel" ({ cls := "ChanceArenaModel", name := "branches", desc := "(II)I" } : Jvm.MethodName) ({ cls := "ChanceArenaModel", name := "branches", desc := "(II)I" } : Jvm.MethodName)) ∈ lw_R := zR (zk_12 _ (List.mem_of_getElem? (i := 140) (by decide +kernel))) rfl
theorem d_law_532 : decode code 532 = .ok (.aload_n 1, 1) := by decide +kernel
theorem d_law_533 : decode code 533 = .ok (.aload_n 0, 1) := by decide +kernel
theorem d_law_534 : decode code 534 = .ok (.iload 4, 2) := by decide +kernel
theorem d_law_536 : decode code 536 = .ok (.iconst 1, 1) := by decide +kernel
theorem d_law_537 : decode code 537 = .ok (.iadd, 1) := by decide +kernel
theorem d_law_538 : decode code 538 = .ok (.iaload, 1) := by decide +kernel
theorem d_law_539 : decode code 539 = .ok (.aload_n 0, 1) := by decide +kernel
theorem d_law_540 : decode code 540 = .ok (.iload 4, 2) := by decide +kernel
theorem d_law_542 : decode code 542 = .ok (.iconst 2, 1) := by decide +kernel
theorem d_law_543 : decode code 543 = .ok (.iadd, 1) := by decide +kernel
theorem d_law_544 : decode code 544 = .ok (.iaload, 1) := by decide +kernel
theorem d_law_545 : decode code 545 = .ok (.invokevirtual 97, 3) := by decide +kernel
theorem d_law_548 : decode code 548 = .ok (.aload_n 2, 1) := by decide +kernel
theorem d_law_549 : decode code 549 = .ok (.aload_n 0, 1) := by decide +kernel
theorem d_law_550 : decode code 550 = .ok (.iload 4, 2) := by decide +kernel
theorem d_law_552 : decode code 552 = .ok (.iconst 1, 1) := by decide +kernel
theorem d_law_553 : decode code 553 = .ok (.iadd, 1) := by decide +kernel
theorem d_law_554 : decode code 554 = .ok (.iaload, 1) := by decide +kernel
theorem d_law_555 : decode code 555 = .ok (.aload_n 0, 1) := by decide +kernel
theorem d_law_556 : decode code 556 = .ok (.iload 4, 2) := by decide +kernel
theorem d_law_558 : decode code 558 = .ok (.iconst 2, 1) := by decide +kernel
theorem d_law_559 : decode code 559 = .ok (.iadd, 1) := by decide +kernel
theorem d_law_560 : decode code 560 = .ok (.iaload, 1) := by decide +kernel
theorem d_law_561 : decode code 561 = .ok (.invokevirtual 100, 3) := by decide +kernel
theorem d_law_564 : decode code 564 = .ok (.if_icmp .eq 591, 3) := by decide +kernel
theorem d_law_569 : decode code 569 = .ok (.aload_n 1, 1) := by decide +kernel
theorem d_law_570 : decode code 570 = .ok (.aload_n 0, 1) := by decide +kernel
theorem d_law_571 : decode code 571 = .ok (.iload 4, 2) := by decide +kernel
theorem d_law_573 : decode code 573 = .ok (.iconst 1, 1) := by decide +kernel
theorem d_law_574 : decode code 574 = .ok (.iadd, 1) := by decide +kernel
theorem d_law_575 : decode code 575 = .ok (.iaload, 1) := by decide +kernel
theorem d_law_576 : decode code 576 = .ok (.aload_n 0, 1) := by decide +kernel
theorem d_law_577 : decode code 577 = .ok (.iload 4, 2) := by decide +kernel
theorem d_law_579 : decode code 579 = .ok (.iconst 2, 1) := by decide +kernel
theorem d_law_580 : decode code 580 = .ok (.iadd, 1) := by decide +kernel
theorem d_law_581 : decode code 581 = .ok (.iaload, 1) := by decide +kernel
theorem d_law_582 : decode code 582 = .ok (.invokevirtual 101, 3) := by decide +kernel
theorem d_law_585 : decode code 585 = .ok (.aload_n 2, 1) := by decide +kernel
theorem d_law_586 : decode code 586 = .ok (.aload_n 0, 1) := by decide +kernel
theorem d_law_587 : decode code 587 = .ok (.iload 4, 2) := by decide +kernel
theorem d_law_589 : decode code 589 = .ok (.iconst 1, 1) := by decide +kernel
theorem d_law_590 : decode code 590 = .ok (.iadd, 1) := by decide +kernel
theorem d_law_591 : decode code 591 = .ok (.iaload, 1) := by decide +kernel
theorem d_law_592 : decode code 592 = .ok (.aload_n 0, 1) := by decide +kernel
theorem d_law_593 : decode code 593 = .ok (.iload 4, 2) := by decide +kernel
theorem d_law_595 : decode code 595 = .ok (.iconst 2, 1) := by decide +kernel
theorem d_law_596 : decode code 596 = .ok (.iadd, 1) := by decide +kernel
theorem d_law_597 : decode code 597 = .ok (.iaload, 1) := by decide +kernel
theorem d_law_598 : decode code 598 = .ok (.invokevirtual 104, 3) := by decide +kernel
theorem d_law_601 : decode code 601 = .ok (.if_icmp .eq 554, 3) := by decide +kernel
set_option maxHeartbeats 4000000 in
set_option maxRecDepth 100000 in
theorem law_case_11 {p : Program} {l : Launch} {e : Env} {s : State} {m : MethodId} {below : List Frame} {meth : Method} {c : Code} {D : va_G} {tA : Nat → ClassId} {A : Nat → Prop} {b oa : Nat} {xs : Nat → Int32} {Q : State → Prop} {x0 a_q8 a_q19 a_q30 a_q41 a_q52 a_q78 a_q89 a_q104 a_q115 a_q126 a_q137 a_q148 a_q159 a_q173 a_q78_q8 a_q78_q17 a_q78_q26 a_q78_q35 a_q78_q44 a_q78_q53 a_q78_q62 a_q78_q71 a_q78_q80 a_q78_q86 a_q78_q100 a_q78_q108 a_q78_q116 y0 b_q5 b_q16 b_q27 b_q38 b_q49 b_q60 b_q71 b_q82 b_q98 b_q109 b_q120 b_q131 b_q142 b_q153 b_q167 b_q176 b_q182 b_q195 b_q203 b_q211 b_q219 b_q233 b_q242 b_q251 b_q260 b_q266 b_q277 b_q288 b_q299 b_q310 b_q324 b_q333 b_q342 b_q350 b_q358 b_q366 b_q375 : Nat} {H : Heap} {locs : List Loc} {ls : Array Slot} (htr : l.stackTraces = false) (hx : p.tables.exec = Jvm.exec) (hb : c.code = code) (hml : c.maxLocals = 7) (hh : zH s) (hg : ∀ w ∈ lw_R, w.before #[Value.ref b] s = true) (hown : s.vm.findClass "ChanceArenaLaw" = some m.cls) (hK : va_K D vwCl (zT tA) s) (hA : ∀ q, s.heap.size ≤ q → A q) (hAn : ∀ q, q < s.heap.size → ¬ A q) (h2 : zS2 s.heap.size s s.heap) (hN : va_Nc "java/lang/IllegalStateException" "java/lang/IllegalArgumentException" s) (hX : va_X b 6 xs s s.heap) (hbl : b < s.heap.size) (hP : va_P D vwCl [(x0, .inr (0, [.ref a_q8, .int 0, .ref a_q19, .ref a_q30, .ref a_q41, .ref a_q52, .int 0, .int (-1), .int (-1), .ref a_q78, .ref a_q89, .ref a_q104, .ref a_q115, .ref a_q126, .ref a_q137, .ref a_q148, .ref a_q159, .ref a_q173, .int 0])), (a_q78, .inr (6, [.int 0, .ref a_q78_q8, .ref a_q78_q17, .ref a_q78_q26, .ref a_q78_q35, .ref a_q78_q44, .ref a_q78_q53, .ref a_q78_q62, .ref a_q78_q71, .ref a_q78_q80, .int 0, .int 0, .int 0, .int 0, .null, .ref a_q78_q86, .ref a_q78_q100, .ref a_q78_q108, .ref a_q78_q116])), (a_q78_q35, .inl (tA 0, 513, .inl (fun _ => 0))), (y0, .inr (13, [.int 0, .ref b_q5, .ref b_q16, .ref b_q27, .ref b_q38, .ref b_q49, .ref b_q60, .int 0, .int 0, .ref b_q71, .ref b_q82, .int 0, .int (-1), .ref b_q98, .ref b_q109, .ref b_q120, .int 0, .int 0, .ref b_q131, .ref b_q142, .ref b_q153, .ref b_q167, .ref b_q176, .int 0, .ref b_q182, .ref b_q195, .ref b_q203, .ref b_q211, .ref b_q219, .int 0, .int (-1), .ref b_q233, .ref b_q242, .ref b_q251, .ref b_q260, .ref b_q266, .ref b_q277, .ref b_q288, .ref b_q299, .ref b_q310, .int 0, .ref b_q324, .ref b_q333, .ref b_q342, .ref b_q350, .ref b_q358, .ref b_q366, .ref b_q375, .int 0]))] H) (hD : va_D A [(x0, .inr (0, [.ref a_q8, .int 0, .ref a_q19, .ref a_q30, .ref a_q41, .ref a_q52, .int 0, .int (-1), .int (-1), .ref a_q78, .ref a_q89, .ref a_q104, .ref a_q115, .ref a_q126, .ref a_q137, .ref a_q148, .ref a_q159, .ref a_q173, .int 0])), (a_q78, .inr (6, [.int 0, .ref a_q78_q8, .ref a_q78_q17, .ref a_q78_q26, .ref a_q78_q35, .ref a_q78_q44, .ref a_q78_q53, .ref a_q78_q62, .ref a_q78_q71, .ref a_q78_q80, .int 0, .int 0, .int 0, .int 0, .null, .ref a_q78_q86, .ref a_q78_q100, .ref a_q78_q108, .ref a_q78_q116])), (a_q78_q35, .inl (tA 0, 513, .inl (fun _ => 0))), (y0, .inr (13, [.int 0, .ref b_q5, .ref b_q16, .ref b_q27, .ref b_q38, .ref b_q49, .ref b_q60, .int 0, .int 0, .ref b_q71, .ref b_q82, .int 0, .int (-1), .ref b_q98, .ref b_q109, .ref b_q120, .int 0, .int 0, .ref b_q131, .ref b_q142, .ref b_q153, .ref b_q167, .ref b_q176, .int 0, .ref b_q182, .ref b_q195, .ref b_q203, .ref b_q211, .ref b_q219, .int 0, .int (-1), .ref b_q233, .ref b_q242, .ref b_q251, .ref b_q260, .ref b_q266, .ref b_q277, .ref b_q288, .ref b_q299, .ref b_q310, .int 0, .ref b_q324, .ref b_q333, .ref b_q342, .ref b_q350, .ref b_q358, .ref b_q366, .ref b_q375, .int 0]))]) (hS : va_S A s.heap H locs) (hl : lv_has ls 7 [(4, .int 0), (3, .ref oa), (2, .ref y0), (1, .ref x0), (0, .ref b)])
    (kk : ∀ (H1 : Heap) (locs1 : List Loc) (ls1 : Array Slot) (c1 s1 : Nat), c1 ≤ 600002 → s1 ≤ 7302232 → va_S A s.heap H1 locs1 → lv_has ls1 7 [(4, .int 0), (0, .ref b)] → W p l e room_1 s m #[Value.ref b] below meth c H1 locs1 c1 s1 Q (F0 m 1155 ls1 [])) :
    W p l e room_1 s m #[Value.ref b] below meth c H locs 21428 651793 Q (F0 m 532 ls []) := by
  refine lv_aload_n hx hb d_law_532 rfl (lv_at hl 3 rfl) ?_
  refine lv_aload_n hx hb d_law_533 rfl (lv_at hl 4 rfl) ?_
  refine lv_iload hx hb d_law_534 (lv_at hl 0 rfl) ?_
  refine lv_iconst (v := 1) hx hb d_law_536 (by decide) ?_
  refine lv_iadd hx hb d_law_537 ?_
  rw [show (0 : Int32) + 1 = 1 from by decide]
  refine va_sld hx hb hX hbl (hAn b hbl) hS (vp_in_iff.mpr (by decide)) d_law_538 ?_
  refine W.eq (g2 := F0 m 539 ls [.int (xs 1), .ref x0]) rfl ?_
  refine lv_aload_n hx hb d_law_539 rfl (lv_at hl 4 rfl) ?_
  refine lv_iload hx hb d_law_540 (lv_at hl 0 rfl) ?_
  refine lv_iconst (v := 2) hx hb d_law_542 (by decide) ?_
  refine lv_iadd hx hb d_law_543 ?_
  rw [show (0 : Int32) + 2 = 2 from by decide]
  refine va_sld hx hb hX hbl (hAn b hbl) hS (vp_in_iff.mpr (by decide)) d_law_544 ?_
  refine W.eq (g2 := F0 m 545 ls [.int (xs 2), .int (xs 1), .ref x0]) rfl ?_
  refine zCallp hP hS hA (va_runV (As := [.int (xs 1), .int (xs 2)]) (rest := []) ⟨hx, hb, hml, hown, hg⟩ (c_CA_command_0 l D tA _ x0 a_q78 [.ref a_q8, .int 0, .ref a_q19, .ref a_q30, .ref a_q41, .ref a_q52, .int 0, .int (-1), .int (-1), .ref a_q78, .ref a_q89, .ref a_q104, .ref a_q115, .ref a_q126, .ref a_q137, .ref a_q148, .ref a_q159, .ref a_q173, .int 0] [.int 0, .ref a_q78_q8, .ref a_q78_q17, .ref a_q78_q26, .ref a_q78_q35, .ref a_q78_q44, .ref a_q78_q53, .ref a_q78_q62, .ref a_q78_q71, .ref a_q78_q80, .int 0, .int 0, .int 0, .int 0, .null, .ref a_q78_q86, .ref a_q78_q100, .ref a_q78_q108, .ref a_q78_q116] rfl rfl a_q78_q35 (fun _ => 0) rfl (xs 1) (xs 2)) (zV 2 hg k5_145 k5_146 k5_147 k1_1 k5_148 rfl rfl (by decide +kernel) ⟨(Nat.le_of_ble_eq_true rfl), (Nat.le_of_ble_eq_true rfl)⟩) (zPreV hh hK hP hD [0, 1, 2] (by decide) rfl (ci := 0) rfl 0 rfl) rfl rfl hl.1 rfl (lv_room (Nat.le_of_ble_eq_true rfl)) d_law_545 ⟨(Nat.le_of_ble_eq_true rfl), (Nat.le_of_ble_eq_true rfl)⟩) (fun r9 H1 locs1 e9 hP1 hS1 => ?_)
  clear hP hS
  replace e9 : r9 = (-1) := e9
  subst e9
  refine lv_aload_n hx hb d_law_548 rfl (lv_at hl 2 rfl) ?_
  refine lv_aload_n hx hb d_law_549 rfl (lv_at hl 4 rfl) ?_
  refine lv_iload hx hb d_law_550 (lv_at hl 0 rfl) ?_
  refine lv_iconst (v := 1) hx hb d_law_552 (by decide) ?_
  refine lv_iadd hx hb d_law_553 ?_
  rw [show (0 : Int32) + 1 = 1 from by decide]
  refine va_sld hx hb hX hbl (hAn b hbl) hS1 (vp_in_iff.mpr (by decide)) d_law_554 ?_
  refine W.eq (g2 := F0 m 555 ls [.int (xs 1), .ref y0, .int (-1)]) rfl ?_
  refine lv_aload_n hx hb d_law_555 rfl (lv_at hl 4 rfl) ?_
  refine lv_iload hx hb d_law_556 (lv_at hl 0 rfl) ?_
  refine lv_iconst (v := 2) hx hb d_law_558 (by decide) ?_
  refine lv_iadd hx hb d_law_559 ?_
  rw [show (0 : Int32) + 2 = 2 from by decide]
  refine va_sld hx hb hX hbl (hAn b hbl) hS1 (vp_in_iff.mpr (by decide)) d_law_560 ?_
  refine W.eq (g2 := F0 m 561 ls [.int (xs 2), .int (xs 1), .ref y0, .int (-1)]) rfl ?_
  refine zCalli (wc := [(y0, .inr (13, [.int 0, .ref b_q5, .ref b_q16, .ref b_q27, .ref b_q38, .ref b_q49, .ref b_q60, .int 0, .int 0, .ref b_q71, .ref b_q82, .int 0, .int (-1), .ref b_q98, .ref b_q109, .ref b_q120, .int 0, .int 0, .ref b_q131, .ref b_q142, .ref b_q153, .ref b_q167, .ref b_q176, .int 0, .ref b_q182, .ref b_q195, .ref b_q203, .ref b_q211, .ref b_q219, .int 0, .int (-1), .ref b_q233, .ref b_q242, .ref b_q251, .ref b_q260, .ref b_q266, .ref b_q277, .ref b_q288, .ref b_q299, .ref b_q310, .int 0, .ref b_q324, .ref b_q333, .ref b_q342, .ref b_q350, .ref b_q358, .ref b_q366, .ref b_q375, .int 0]))]) (wr := [(x0, .inr (0, [.ref a_q8, .int 0, .ref a_q19, .ref a_q30, .ref a_q41, .ref a_q52, .int 0, .int (-1), .int (-1), .ref a_q78, .ref a_q89, .ref a_q104, .ref a_q115, .ref a_q126, .ref a_q137, .ref a_q148, .ref a_q159, .ref a_q173, .int 0])), (a_q78, .inr (6, [.int 0, .ref a_q78_q8, .ref a_q78_q17, .ref a_q78_q26, .ref a_q78_q35, .ref a_q78_q44, .ref a_q78_q53, .ref a_q78_q62, .ref a_q78_q71, .ref a_q78_q80, .int 0, .int 0, .int 0, .int 0, .null, .ref a_q78_q86, .ref a_q78_q100, .ref a_q78_q108, .ref a_q78_q116])), (a_q78_q35, .inl (tA 0, 513, .inl (fun _ => 0)))]) hP1 hD hS1 hA [3] [0, 1, 2] rfl rfl (by decide) (by decide) (va_runV (As := [.int (xs 1), .int (xs 2)]) (rest := [.int (-1)]) ⟨hx, hb, hml, hown, hg⟩ (c_MM_command_0 l D tA _ y0 [.int 0, .ref b_q5, .ref b_q16, .ref b_q27, .ref b_q38, .ref b_q49, .ref b_q60, .int 0, .int 0, .ref b_q71, .ref b_q82, .int 0, .int (-1), .ref b_q98, .ref b_q109, .ref b_q120, .int 0, .int 0, .ref b_q131, .ref b_q142, .ref b_q153, .ref b_q167, .ref b_q176, .int 0, .ref b_q182, .ref b_q195, .ref b_q203, .ref b_q211, .ref b_q219, .int 0, .int (-1), .ref b_q233, .ref b_q242, .ref b_q251, .ref b_q260, .ref b_q266, .ref b_q277, .ref b_q288, .ref b_q299, .ref b_q310, .int 0, .ref b_q324, .ref b_q333, .ref b_q342, .ref b_q350, .ref b_q358, .ref b_q366, .ref b_q375, .int 0] 0 rfl (xs 1) (xs 2) rfl) (zV 2 hg k12_130 k12_131 k12_132 k1_14 k12_133 rfl rfl (by decide +kernel) ⟨(Nat.le_of_ble_eq_true rfl), (Nat.le_of_ble_eq_true rfl)⟩) (zPreV hh hK hP1 hD [3] (by decide) rfl (ci := 13) rfl 0 rfl) rfl rfl hl.1 rfl (lv_room (Nat.le_of_ble_eq_true rfl)) d_law_561 ⟨(Nat.le_of_ble_eq_true rfl), (Nat.le_of_ble_eq_true rfl)⟩) (fun r9 _ H2 locs2 e9 hP2 hD2 hS2 => ?_)
  clear hP1 hD hS1
  replace e9 : r9 = (-1) := e9
  subst e9
  replace hP2 : va_P D vwCl [(x0, .inr (0, [.ref a_q8, .int 0, .ref a_q19, .ref a_q30, .ref a_q41, .ref a_q52, .int 0, .int (-1), .int (-1), .ref a_q78, .ref a_q89, .ref a_q104, .ref a_q115, .ref a_q126, .ref a_q137, .ref a_q148, .ref a_q159, .ref a_q173, .int 0])), (a_q78, .inr (6, [.int 0, .ref a_q78_q8, .ref a_q78_q17, .ref a_q78_q26, .ref a_q78_q35, .ref a_q78_q44, .ref a_q78_q53, .ref a_q78_q62, .ref a_q78_q71, .ref a_q78_q80, .int 0, .int 0, .int 0, .int 0, .null, .ref a_q78_q86, .ref a_q78_q100, .ref a_q78_q108, .ref a_q78_q116])), (a_q78_q35, .inl (tA 0, 513, .inl (fun _ => 0))), (y0, .inr (13, [.int 0, .ref b_q5, .ref b_q16, .ref b_q27, .ref b_q38, .ref b_q49, .ref b_q60, .int 0, .int 0, .ref b_q71, .ref b_q82, .int 0, .int (-1), .ref b_q98, .ref b_q109, .ref b_q120, .int 0, .int 0, .ref b_q131, .ref b_q142, .ref b_q153, .ref b_q167, .ref b_q176, .int 0, .ref b_q182, .ref b_q195, .ref b_q203, .ref b_q211, .ref b_q219, .int 0, .int (-1), .ref b_q233, .ref b_q242, .ref b_q251, .ref b_q260, .ref b_q266, .ref b_q277, .ref b_q288, .ref b_q299, .ref b_q310, .int 0, .ref b_q324, .ref b_q333, .ref b_q342, .ref b_q350, .ref b_q358, .ref b_q366, .ref b_q375, .int 0]))] _ := hP2
  replace hD2 : va_D A [(x0, .inr (0, [.ref a_q8, .int 0, .ref a_q19, .ref a_q30, .ref a_q41, .ref a_q52, .int 0, .int (-1), .int (-1), .ref a_q78, .ref a_q89, .ref a_q104, .ref a_q115, .ref a_q126, .ref a_q137, .ref a_q148, .ref a_q159, .ref a_q173, .int 0])), (a_q78, .inr (6, [.int 0, .ref a_q78_q8, .ref a_q78_q17, .ref a_q78_q26, .ref a_q78_q35, .ref a_q78_q44, .ref a_q78_q53, .ref a_q78_q62, .ref a_q78_q71, .ref a_q78_q80, .int 0, .int 0, .int 0, .int 0, .null, .ref a_q78_q86, .ref a_q78_q100, .ref a_q78_q108, .ref a_q78_q116])), (a_q78_q35, .inl (tA 0, 513, .inl (fun _ => 0))), (y0, .inr (13, [.int 0, .ref b_q5, .ref b_q16, .ref b_q27, .ref b_q38, .ref b_q49, .ref b_q60, .int 0, .int 0, .ref b_q71, .ref b_q82, .int 0, .int (-1), .ref b_q98, .ref b_q109, .ref b_q120, .int 0, .int 0, .ref b_q131, .ref b_q142, .ref b_q153, .ref b_q167, .ref b_q176, .int 0, .ref b_q182, .ref b_q195, .ref b_q203, .ref b_q211, .ref b_q219, .int 0, .int (-1), .ref b_q233, .ref b_q242, .ref b_q251, .ref b_q260, .ref b_q266, .ref b_q277, .ref b_q288, .ref b_q299, .ref b_q310, .int 0, .ref b_q324, .ref b_q333, .ref b_q342, .ref b_q350, .ref b_q358, .ref b_q366, .ref b_q375, .int 0]))] := hD2
  refine lv_icmp_eq (tgt := 1155) hx hb d_law_564 (by decide) (fun _ => ?_) (fun c9 => absurd rfl c9)
  exact kk _ _ _ _ _ (Nat.le_of_ble_eq_true rfl) (Nat.le_of_ble_eq_true rfl) hS2 (lv_sub hl [0, 4] rfl)
set_option maxHeartbeats 4000000 in
set_option maxRecDepth 100000 in
theorem law_case_12 {p : Program} {l : Launch} {e : Env} {s : State} {m : MethodId} {below : List Frame} {meth : Method} {c : Code} {D : va_G} {tA : Nat → ClassId} {A : Nat → Prop} {b oa : Nat} {xs : Nat → Int32} {Q : State → Prop} {x0 a_q8 a_q19 a_q30 a_q41 a_q52 a_q78 a_q89 a_q104 a_q115 a_q126 a_q137 a_q148 a_q159 a_q173 a_q78_q8 a_q78_q17 a_q78_q26 a_q78_q35 a_q78_q44 a_q78_q53 a_q78_q62 a_q78_q71 a_q78_q80 a_q78_q86 a_q78_q100 a_q78_q108 a_q78_q116 y0 b_q5 b_q16 b_q27 b_q38 b_q49 b_q60 b_q71 b_q82 b_q98 b_q109 b_q120 b_q131 b_q142 b_q153 b_q167 b_q176 b_q182 b_q195 b_q203 b_q211 b_q219 b_q233 b_q242 b_q251 b_q260 b_q266 b_q277 b_q288 b_q299 b_q310 b_q324 b_q333 b_q342 b_q350 b_q358 b_q366 b_q375 : Nat} {H : Heap} {locs : List Loc} {ls : Array Slot} (htr : l.stackTraces = false) (hx : p.tables.exec = Jvm.exec) (hb : c.code = code) (hml : c.maxLocals = 7) (hh : zH s) (hg : ∀ w ∈ lw_R, w.before #[Value.ref b] s = true) (hown : s.vm.findClass "ChanceArenaLaw" = some m.cls) (hK : va_K D vwCl (zT tA) s) (hA : ∀ q, s.heap.size ≤ q → A q) (hAn : ∀ q, q < s.heap.size → ¬ A q) (h2 : zS2 s.heap.size s s.heap) (hN : va_Nc "java/lang/IllegalStateException" "java/lang/IllegalArgumentException" s) (hX : va_X b 6 xs s s.heap) (hbl : b < s.heap.size) (hP : va_P D vwCl [(x0, .inr (0, [.ref a_q8, .int 0, .ref a_q19, .ref a_q30, .ref a_q41, .ref a_q52, .int 0, .int (-1), .int (-1), .ref a_q78, .ref a_q89, .ref a_q104, .ref a_q115, .ref a_q126, .ref a_q137, .ref a_q148, .ref a_q159, .ref a_q173, .int 0])), (a_q78, .inr (6, [.int 0, .ref a_q78_q8, .ref a_q78_q17, .ref a_q78_q26, .ref a_q78_q35, .ref a_q78_q44, .ref a_q78_q53, .ref a_q78_q62, .ref a_q78_q71, .ref a_q78_q80, .int 0, .int 0, .int 0, .int 0, .null, .ref a_q78_q86, .ref a_q78_q100, .ref a_q78_q108, .ref a_q78_q116])), (a_q78_q35, .inl (tA 0, 513, .inl (fun _ => 0))), (y0, .inr (13, [.int 0, .ref b_q5, .ref b_q16, .ref b_q27, .ref b_q38, .ref b_q49, .ref b_q60, .int 0, .int 0, .ref b_q71, .ref b_q82, .int 0, .int (-1), .ref b_q98, .ref b_q109, .ref b_q120, .int 0, .int 0, .ref b_q131, .ref b_q142, .ref b_q153, .ref b_q167, .ref b_q176, .int 0, .ref b_q182, .ref b_q195, .ref b_q203, .ref b_q211, .ref b_q219, .int 0, .int (-1), .ref b_q233, .ref b_q242, .ref b_q251, .ref b_q260, .ref b_q266, .ref b_q277, .ref b_q288, .ref b_q299, .ref b_q310, .int 0, .ref b_q324, .ref b_q333, .ref b_q342, .ref b_q350, .ref b_q358, .ref b_q366, .ref b_q375, .int 0]))] H) (hD : va_D A [(x0, .inr (0, [.ref a_q8, .int 0, .ref a_q19, .ref a_q30, .ref a_q41, .ref a_q52, .int 0, .int (-1), .int (-1), .ref a_q78, .ref a_q89, .ref a_q104, .ref a_q115, .ref a_q126, .ref a_q137, .ref a_q148, .ref a_q159, .ref a_q173, .int 0])), (a_q78, .inr (6, [.int 0, .ref a_q78_q8, .ref a_q78_q17, .ref a_q78_q26, .ref a_q78_q35, .ref a_q78_q44, .ref a_q78_q53, .ref a_q78_q62, .ref a_q78_q71, .ref a_q78_q80, .int 0, .int 0, .int 0, .int 0, .null, .ref a_q78_q86, .ref a_q78_q100, .ref a_q78_q108, .ref a_q78_q116])), (a_q78_q35, .inl (tA 0, 513, .inl (fun _ => 0))), (y0, .inr (13, [.int 0, .ref b_q5, .ref b_q16, .ref b_q27, .ref b_q38, .ref b_q49, .ref b_q60, .int 0, .int 0, .ref b_q71, .ref b_q82, .int 0, .int (-1), .ref b_q98, .ref b_q109, .ref b_q120, .int 0, .int 0, .ref b_q131, .ref b_q142, .ref b_q153, .ref b_q167, .ref b_q176, .int 0, .ref b_q182, .ref b_q195, .ref b_q203, .ref b_q211, .ref b_q219, .int 0, .int (-1), .ref b_q233, .ref b_q242, .ref b_q251, .ref b_q260, .ref b_q266, .ref b_q277, .ref b_q288, .ref b_q299, .ref b_q310, .int 0, .ref b_q324, .ref b_q333, .ref b_q342, .ref b_q350, .ref b_q358, .ref b_q366, .ref b_q375, .int 0]))]) (hS : va_S A s.heap H locs) (hl : lv_has ls 7 [(4, .int 0), (3, .ref oa), (2, .ref y0), (1, .ref x0), (0, .ref b)])
    (kk : ∀ (H1 : Heap) (locs1 : List Loc) (ls1 : Array Slot) (c1 s1 : Nat), c1 ≤ 600002 → s1 ≤ 7302232 → va_S A s.heap H1 locs1 → lv_has ls1 7 [(4, .int 0), (0, .ref b)] → W p l e room_1 s m #[Value.ref b] below meth c H1 locs1 c1 s1 Q (F0 m 1155 ls1 [])) :
    W p l e room_1 s m #[Value.ref b] below meth c H locs 21428 651793 Q (F0 m 569 ls []) := by
  refine lv_aload_n hx hb d_law_569 rfl (lv_at hl 3 rfl) ?_
  refine lv_aload_n hx hb d_law_570 rfl (lv_at hl 4 rfl) ?_
  refine lv_iload hx hb d_law_571 (lv_at hl 0 rfl) ?_
  refine lv_iconst (v := 1) hx hb d_law_573 (by decide) ?_
  refine lv_iadd hx hb d_law_574 ?_
  rw [show (0 : Int32) + 1 = 1 from by decide]
  refine va_sld hx hb hX hbl (hAn b hbl) hS (vp_in_iff.mpr (by decide)) d_law_575 ?_
  refine W.eq (g2 := F0 m 576 ls [.int (xs 1), .ref x0]) rfl ?_
  refine lv_aload_n hx hb d_law_576 rfl (lv_at hl 4 rfl) ?_
  refine lv_iload hx hb d_law_577 (lv_at hl 0 rfl) ?_
  refine lv_iconst (v := 2) hx hb d_law_579 (by decide) ?_
  refine lv_iadd hx hb d_law_580 ?_
  rw [show (0 : Int32) + 2 = 2 from by decide]
  refine va_sld hx hb hX hbl (hAn b hbl) hS (vp_in_iff.mpr (by decide)) d_law_581 ?_
  refine W.eq (g2 := F0 m 582 ls [.int (xs 2), .int (xs 1), .ref x0]) rfl ?_
  refine zCallp hP hS hA (va_runV (As := [.int (xs 1), .int (xs 2)]) (rest := []) ⟨hx, hb, hml, hown, hg⟩ (c_CA_branches_0 l D tA _ x0 a_q78 [.ref a_q8, .int 0, .ref a_q19, .ref a_q30, .ref a_q41, .ref a_q52, .int 0, .int (-1), .int (-1), .ref a_q78, .ref a_q89, .ref a_q104, .ref a_q115, .ref a_q126, .ref a_q137, .ref a_q148, .ref a_q159, .ref a_q173, .int 0] [.int 0, .ref a_q78_q8, .ref a_q78_q17, .ref a_q78_q26, .ref a_q78_q35, .ref a_q78_q44, .ref a_q78_q53, .ref a_q78_q62, .ref a_q78_q71, .ref a_q78_q80, .int 0, .int 0, .int 0, .int 0, .null, .ref a_q78_q86, .ref a_q78_q100, .ref a_q78_q108, .ref a_q78_q116] rfl rfl a_q78_q35 (fun _ => 0) rfl (xs 1) (xs 2)) (zV 2 hg k5_154 k5_155 k5_156 k1_1 k5_157 rfl rfl (by decide +kernel) ⟨(Nat.le_of_ble_eq_true rfl), (Nat.le_of_ble_eq_true rfl)⟩) (zPreV hh hK hP hD [0, 1, 2] (by decide) rfl (ci := 0) rfl 0 rfl) rfl rfl hl.1 rfl (lv_room (Nat.le_of_ble_eq_true rfl)) d_law_582 ⟨(Nat.le_of_ble_eq_true rfl), (Nat.le_of_ble_eq_true rfl)⟩) (fun r9 H1 locs1 e9 hP1 hS1 => ?_)
  clear hP hS
  replace e9 : r9 = (-1) := e9
  subst e9
  refine lv_aload_n hx hb d_law_585 rfl (lv_at hl 2 rfl) ?_
  refine lv_aload_n hx hb d_law_586 rfl (lv_at hl 4 rfl) ?_
  refine lv_iload hx hb d_law_587 (lv_at hl 0 rfl) ?_
  refine lv_iconst (v := 1) hx hb d_law_589 (by decide) ?_
  refine lv_iadd hx hb d_law_590 ?_
  rw [show (0 : Int32) + 1 = 1 from by decide]
  refine va_sld hx hb hX hbl (hAn b hbl) hS1 (vp_in_iff.mpr (by decide)) d_law_591 ?_
  refine W.eq (g2 := F0 m 592 ls [.int (xs 1), .ref y0, .int (-1)]) rfl ?_
  refine lv_aload_n hx hb d_law_592 rfl (lv_at hl 4 rfl) ?_
  refine lv_iload hx hb d_law_593 (lv_at hl 0 rfl) ?_
  refine lv_iconst (v := 2) hx hb d_law_595 (by decide) ?_
  refine lv_iadd hx hb d_law_596 ?_
  rw [show (0 : Int32) + 2 = 2 from by decide]
  refine va_sld hx hb hX hbl (hAn b hbl) hS1 (vp_in_iff.mpr (by decide)) d_law_597 ?_
  refine W.eq (g2 := F0 m 598 ls [.int (xs 2), .int (xs 1), .ref y0, .int (-1)]) rfl ?_
  refine zCalli (wc := [(y0, .inr (13, [.int 0, .ref b_q5, .ref b_q16, .ref b_q27, .ref b_q38, .ref b_q49, .ref b_q60, .int 0, .int 0, .ref b_q71, .ref b_q82, .int 0, .int (-1), .ref b_q98, .ref b_q109, .ref b_q120, .int 0, .int 0, .ref b_q131, .ref b_q142, .ref b_q153, .ref b_q167, .ref b_q176, .int 0, .ref b_q182, .ref b_q195, .ref b_q203, .ref b_q211, .ref b_q219, .int 0, .int (-1), .ref b_q233, .ref b_q242, .ref b_q251, .ref b_q260, .ref b_q266, .ref b_q277, .ref b_q288, .ref b_q299, .ref b_q310, .int 0, .ref b_q324, .ref b_q333, .ref b_q342, .ref b_q350, .ref b_q358, .ref b_q366, .ref b_q375, .int 0]))]) (wr := [(x0, .inr (0, [.ref a_q8, .int 0, .ref a_q19, .ref a_q30, .ref a_q41, .ref a_q52, .int 0, .int (-1), .int (-1), .ref a_q78, .ref a_q89, .ref a_q104, .ref a_q115, .ref a_q126, .ref a_q137, .ref a_q148, .ref a_q159, .ref a_q173, .int 0])), (a_q78, .inr (6, [.int 0, .ref a_q78_q8, .ref a_q78_q17, .ref a_q78_q26, .ref a_q78_q35, .ref a_q78_q44, .ref a_q78_q53, .ref a_q78_q62, .ref a_q78_q71, .ref a_q78_q80, .int 0, .int 0, .int 0, .int 0, .null, .ref a_q78_q86, .ref a_q78_q100, .ref a_q78_q108, .ref a_q78_q116])), (a_q78_q35, .inl (tA 0, 513, .inl (fun _ => 0)))]) hP1 hD hS1 hA [3] [0, 1, 2] rfl rfl (by decide) (by decide) (va_runV (As := [.int (xs 1), .int (xs 2)]) (rest := [.int (-1)]) ⟨hx, hb, hml, hown, hg⟩ (c_MM_branches_0 l D tA _ y0 [.int 0, .ref b_q5, .ref b_q16, .ref b_q27, .ref b_q38, .ref b_q49, .ref b_q60, .int 0, .int 0, .ref b_q71, .ref b_q82, .int 0, .int (-1), .ref b_q98, .ref b_q109, .ref b_q120, .int 0, .int 0, .ref b_q131, .ref b_q142, .ref b_q153, .ref b_q167, .ref b_q176, .int 0, .ref b_q182, .ref b_q195, .ref b_q203, .ref b_q211, .ref b_q219, .int 0, .int (-1), .ref b_q233, .ref b_q242, .ref b_q251, .ref b_q260, .ref b_q266, .ref b_q277, .ref b_q288, .ref b_q299, .ref b_q310, .int 0, .ref b_q324, .ref b_q333, .ref b_q342, .ref b_q350, .ref b_q358, .ref b_q366, .ref b_q375, .int 0] 0 rfl (xs 1) (xs 2) rfl) (zV 2 hg k12_138 k12_139 k12_140 k1_14 k12_141 rfl rfl (by decide +kernel) ⟨(Nat.le_of_ble_eq_true rfl), (Nat.le_of_ble_eq_true rfl)⟩) (zPreV hh hK hP1 hD [3] (by decide) rfl (ci := 13) rfl 0 rfl) rfl rfl hl.1 rfl (lv_room (Nat.le_of_ble_eq_true rfl)) d_law_598 ⟨(Nat.le_of_ble_eq_true rfl), (Nat.le_of_ble_eq_true rfl)⟩) (fun r9 _ H2 locs2 e9 hP2 hD2 hS2 => ?_)
  clear hP1 hD hS1
  replace e9 : r9 = (-1) := e9
  subst e9
  replace hP2 : va_P D vwCl [(x0, .inr (0, [.ref a_q8, .int 0, .ref a_q19, .ref a_q30, .ref a_q41, .ref a_q52, .int 0, .int (-1), .int (-1), .ref a_q78, .ref a_q89, .ref a_q104, .ref a_q115, .ref a_q126, .ref a_q137, .ref a_q148, .ref a_q159, .ref a_q173, .int 0])), (a_q78, .inr (6, [.int 0, .ref a_q78_q8, .ref a_q78_q17, .ref a_q78_q26, .ref a_q78_q35, .ref a_q78_q44, .ref a_q78_q53, .ref a_q78_q62, .ref a_q78_q71, .ref a_q78_q80, .int 0, .int 0, .int 0, .int 0, .null, .ref a_q78_q86, .ref a_q78_q100, .ref a_q78_q108, .ref a_q78_q116])), (a_q78_q35, .inl (tA 0, 513, .inl (fun _ => 0))), (y0, .inr (13, [.int 0, .ref b_q5, .ref b_q16, .ref b_q27, .ref b_q38, .ref b_q49, .ref b_q60, .int 0, .int 0, .ref b_q71, .ref b_q82, .int 0, .int (-1), .ref b_q98, .ref b_q109, .ref b_q120, .int 0, .int 0, .ref b_q131, .ref b_q142, .ref b_q153, .ref b_q167, .ref b_q176, .int 0, .ref b_q182, .ref b_q195, .ref b_q203, .ref b_q211, .ref b_q219, .int 0, .int (-1), .ref b_q233, .ref b_q242, .ref b_q251, .ref b_q260, .ref b_q266, .ref b_q277, .ref b_q288, .ref b_q299, .ref b_q310, .int 0, .ref b_q324, .ref b_q333, .ref b_q342, .ref b_q350, .ref b_q358, .ref b_q366, .ref b_q375, .int 0]))] _ := hP2
  replace hD2 : va_D A [(x0, .inr (0, [.ref a_q8, .int 0, .ref a_q19, .ref a_q30, .ref a_q41, .ref a_q52, .int 0, .int (-1), .int (-1), .ref a_q78, .ref a_q89, .ref a_q104, .ref a_q115, .ref a_q126, .ref a_q137, .ref a_q148, .ref a_q159, .ref a_q173, .int 0])), (a_q78, .inr (6, [.int 0, .ref a_q78_q8, .ref a_q78_q17, .ref a_q78_q26, .ref a_q78_q35, .ref a_q78_q44, .ref a_q78_q53, .ref a_q78_q62, .ref a_q78_q71, .ref a_q78_q80, .int 0, .int 0, .int 0, .int 0, .null, .ref a_q78_q86, .ref a_q78_q100, .ref a_q78_q108, .ref a_q78_q116])), (a_q78_q35, .inl (tA 0, 513, .inl (fun _ => 0))), (y0, .inr (13, [.int 0, .ref b_q5, .ref b_q16, .ref b_q27, .ref b_q38, .ref b_q49, .ref b_q60, .int 0, .int 0, .ref b_q71, .ref b_q82, .int 0, .int (-1), .ref b_q98, .ref b_q109, .ref b_q120, .int 0, .int 0, .ref b_q131, .ref b_q142, .ref b_q153, .ref b_q167, .ref b_q176, .int 0, .ref b_q182, .ref b_q195, .ref b_q203, .ref b_q211, .ref b_q219, .int 0, .int (-1), .ref b_q233, .ref b_q242, .ref b_q251, .ref b_q260, .ref b_q266, .ref b_q277, .ref b_q288, .ref b_q299, .ref b_q310, .int 0, .ref b_q324, .ref b_q333, .ref b_q342, .ref b_q350, .ref b_q358, .ref b_q366, .ref b_q375, .int 0]))] := hD2
  refine lv_icmp_eq (tgt := 1155) hx hb d_law_601 (by decide) (fun _ => ?_) (fun c9 => absurd rfl c9)
  exact kk _ _ _ _ _ (Nat.le_of_ble_eq_true rfl) (Nat.le_of_ble_eq_true rfl) hS2 (lv_sub hl [0, 4] rfl)
