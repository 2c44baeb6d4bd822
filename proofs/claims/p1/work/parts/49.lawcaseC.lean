theorem k4_5 : (Jvm.Cond.methodLink "ChanceArenaLaw" (47 : Nat) ({ cls := "ChanceArena", name := "feed", desc := "(IIIII)I" } : Jvm.MethodName)) ∈ lw_R := zR (zk_4 _ (List.mem_of_getElem? (i := 5) (by decide +kernel))) rfl
theorem k4_6 : (Jvm.Cond.instanceMethod ({ cls := "ChanceArena", name := "feed", desc := "(IIIII)I" } : Jvm.MethodName)) ∈ lw_R := zR (zk_4 _ (List.mem_of_getElem? (i := 6) (by decide +kernel))) rfl
theorem k4_7 : (Jvm.Cond.selects "ChanceArena" ({ cls := "ChanceArena", name := "feed", desc := "(IIIII)I" } : Jvm.MethodName) ({ cls := "ChanceArena", name := "feed", desc := "(IIIII)I" } : Jvm.MethodName)) ∈ lw_R := zR (zk_4 _ (List.mem_of_getElem? (i := 7) (by decide +kernel))) rfl
theorem k10_233 : (Jvm.Cond.methodLink "ChanceArenaLaw" (51 : Nat) ({ cls := "ChanceArenaModel", name := "feed", desc := "(IIIII)I" } : Jvm.MethodName)) ∈ lw_R := zR (zk_10 _ (List.mem_of_getElem? (i := 233) (by decide +kernel))) rfl
theorem k10_234 : (Jvm.Cond.instanceMethod ({ cls := "ChanceArenaModel", name := "feed", desc := "(IIIII)I" } : Jvm.MethodName)) ∈ lw_R := zR (zk_10 _ (List.mem_of_getElem? (i := 234) (by decide +kernel))) rfl
theorem k10_235 : (Jvm.Cond.selects "ChanceArenaModel" ({ cls := "ChanceArenaModel", name := "feed", desc := "(IIIII)I" } : Jvm.MethodName) ({ cls := "ChanceArenaModel", name := "feed", desc := "(IIIII)I" } : Jvm.MethodName)) ∈ lw_R := zR (zk_10 _ (List.mem_of_getElem? (i := 235) (by decide +kernel))) rfl
theorem d_law_164 : decode code 164 = .ok (.aload_n 1, 1) := dc9_43 (by decide +kernel)
theorem d_law_165 : decode code 165 = .ok (.aload_n 0, 1) := dc9_42 (by decide +kernel)
theorem d_law_166 : decode code 166 = .ok (.iload 4, 2) := dc9_21 (by decide +kernel)
theorem d_law_168 : decode code 168 = .ok (.iconst 1, 1) := dc9_4 (by decide +kernel)
theorem d_law_169 : decode code 169 = .ok (.iadd, 1) := dc9_96 (by decide +kernel)
theorem d_law_170 : decode code 170 = .ok (.iaload, 1) := dc9_46 (by decide +kernel)
theorem d_law_171 : decode code 171 = .ok (.aload_n 0, 1) := dc9_42 (by decide +kernel)
theorem d_law_172 : decode code 172 = .ok (.iload 4, 2) := dc9_21 (by decide +kernel)
theorem d_law_174 : decode code 174 = .ok (.iconst 2, 1) := dc9_5 (by decide +kernel)
theorem d_law_175 : decode code 175 = .ok (.iadd, 1) := dc9_96 (by decide +kernel)
theorem d_law_176 : decode code 176 = .ok (.iaload, 1) := dc9_46 (by decide +kernel)
theorem d_law_177 : decode code 177 = .ok (.aload_n 0, 1) := dc9_42 (by decide +kernel)
theorem d_law_178 : decode code 178 = .ok (.iload 4, 2) := dc9_21 (by decide +kernel)
theorem d_law_180 : decode code 180 = .ok (.iconst 3, 1) := dc9_6 (by decide +kernel)
theorem d_law_181 : decode code 181 = .ok (.iadd, 1) := dc9_96 (by decide +kernel)
theorem d_law_182 : decode code 182 = .ok (.iaload, 1) := dc9_46 (by decide +kernel)
theorem d_law_183 : decode code 183 = .ok (.aload_n 0, 1) := dc9_42 (by decide +kernel)
theorem d_law_184 : decode code 184 = .ok (.iload 4, 2) := dc9_21 (by decide +kernel)
theorem d_law_186 : decode code 186 = .ok (.iconst 4, 1) := dc9_7 (by decide +kernel)
theorem d_law_187 : decode code 187 = .ok (.iadd, 1) := dc9_96 (by decide +kernel)
theorem d_law_188 : decode code 188 = .ok (.iaload, 1) := dc9_46 (by decide +kernel)
theorem d_law_189 : decode code 189 = .ok (.aload_n 0, 1) := dc9_42 (by decide +kernel)
theorem d_law_190 : decode code 190 = .ok (.iload 4, 2) := dc9_21 (by decide +kernel)
theorem d_law_192 : decode code 192 = .ok (.iconst 5, 1) := dc9_8 (by decide +kernel)
theorem d_law_193 : decode code 193 = .ok (.iadd, 1) := dc9_96 (by decide +kernel)
theorem d_law_194 : decode code 194 = .ok (.iaload, 1) := dc9_46 (by decide +kernel)
theorem d_law_195 : decode code 195 = .ok (.invokevirtual 47, 3) := dc9_182 (by decide +kernel)
theorem d_law_198 : decode code 198 = .ok (.aload_n 2, 1) := dc9_44 (by decide +kernel)
theorem d_law_199 : decode code 199 = .ok (.aload_n 0, 1) := dc9_42 (by decide +kernel)
theorem d_law_200 : decode code 200 = .ok (.iload 4, 2) := dc9_21 (by decide +kernel)
theorem d_law_202 : decode code 202 = .ok (.iconst 1, 1) := dc9_4 (by decide +kernel)
theorem d_law_203 : decode code 203 = .ok (.iadd, 1) := dc9_96 (by decide +kernel)
theorem d_law_204 : decode code 204 = .ok (.iaload, 1) := dc9_46 (by decide +kernel)
theorem d_law_205 : decode code 205 = .ok (.aload_n 0, 1) := dc9_42 (by decide +kernel)
theorem d_law_206 : decode code 206 = .ok (.iload 4, 2) := dc9_21 (by decide +kernel)
theorem d_law_208 : decode code 208 = .ok (.iconst 2, 1) := dc9_5 (by decide +kernel)
theorem d_law_209 : decode code 209 = .ok (.iadd, 1) := dc9_96 (by decide +kernel)
theorem d_law_210 : decode code 210 = .ok (.iaload, 1) := dc9_46 (by decide +kernel)
theorem d_law_211 : decode code 211 = .ok (.aload_n 0, 1) := dc9_42 (by decide +kernel)
theorem d_law_212 : decode code 212 = .ok (.iload 4, 2) := dc9_21 (by decide +kernel)
theorem d_law_214 : decode code 214 = .ok (.iconst 3, 1) := dc9_6 (by decide +kernel)
theorem d_law_215 : decode code 215 = .ok (.iadd, 1) := dc9_96 (by decide +kernel)
theorem d_law_216 : decode code 216 = .ok (.iaload, 1) := dc9_46 (by decide +kernel)
theorem d_law_217 : decode code 217 = .ok (.aload_n 0, 1) := dc9_42 (by decide +kernel)
theorem d_law_218 : decode code 218 = .ok (.iload 4, 2) := dc9_21 (by decide +kernel)
theorem d_law_220 : decode code 220 = .ok (.iconst 4, 1) := dc9_7 (by decide +kernel)
theorem d_law_221 : decode code 221 = .ok (.iadd, 1) := dc9_96 (by decide +kernel)
theorem d_law_222 : decode code 222 = .ok (.iaload, 1) := dc9_46 (by decide +kernel)
theorem d_law_223 : decode code 223 = .ok (.aload_n 0, 1) := dc9_42 (by decide +kernel)
theorem d_law_224 : decode code 224 = .ok (.iload 4, 2) := dc9_21 (by decide +kernel)
theorem d_law_226 : decode code 226 = .ok (.iconst 5, 1) := dc9_8 (by decide +kernel)
theorem d_law_227 : decode code 227 = .ok (.iadd, 1) := dc9_96 (by decide +kernel)
theorem d_law_228 : decode code 228 = .ok (.iaload, 1) := dc9_46 (by decide +kernel)
theorem d_law_229 : decode code 229 = .ok (.invokevirtual 51, 3) := dc9_182 (by decide +kernel)
theorem d_law_232 : decode code 232 = .ok (.if_icmp .eq 923, 3) := dc9_159 (by decide +kernel)
set_option maxHeartbeats 4000000 in
set_option maxRecDepth 100000 in
theorem law_case_0 {p : Program} {l : Launch} {e : Env} {s : State} {m : MethodId} {below : List Frame} {meth : Method} {c : Code} {D : va_G} {tA : Nat → ClassId} {A : Nat → Prop} {b oa : Nat} {xs : Nat → Int32} {Q : State → Prop} {x0 a_q8 a_q19 a_q30 a_q41 a_q52 a_q78 a_q89 a_q104 a_q115 a_q126 a_q137 a_q148 a_q159 a_q173 y0 b_q5 b_q16 b_q27 b_q38 b_q49 b_q60 b_q71 b_q82 b_q98 b_q109 b_q120 b_q131 b_q142 b_q153 b_q167 b_q176 b_q182 b_q195 b_q203 b_q211 b_q219 b_q233 b_q242 b_q251 b_q260 b_q266 b_q277 b_q288 b_q299 b_q310 b_q324 b_q333 b_q342 b_q350 b_q358 b_q366 b_q375 b_q5_q7 : Nat} {H : Heap} {locs : List Loc} {ls : Array Slot} (htr : l.stackTraces = false) (hx : p.tables.exec = Jvm.exec) (hb : c.code = code) (hml : c.maxLocals = 7) (hh : zH s) (hg : ∀ w ∈ lw_R, w.before #[Value.ref b] s = true) (hown : s.vm.findClass "ChanceArenaLaw" = some m.cls) (hK : va_K D vwCl (zT tA) s) (hA : ∀ q, s.heap.size ≤ q → A q) (hAn : ∀ q, q < s.heap.size → ¬ A q) (h2 : zS2 s.heap.size s s.heap) (hN : va_Nc "java/lang/IllegalStateException" "java/lang/IllegalArgumentException" s) (hX : va_X b 6 xs s s.heap) (hbl : b < s.heap.size) (hP : va_P D vwCl [(x0, .inr (0, [.ref a_q8, .int 0, .ref a_q19, .ref a_q30, .ref a_q41, .ref a_q52, .int 0, .int (-1), .int (-1), .ref a_q78, .ref a_q89, .ref a_q104, .ref a_q115, .ref a_q126, .ref a_q137, .ref a_q148, .ref a_q159, .ref a_q173, .int 0])), (a_q8, .inl (tA 2, 256, .inl (fun _ => 0))), (y0, .inr (13, [.int 0, .ref b_q5, .ref b_q16, .ref b_q27, .ref b_q38, .ref b_q49, .ref b_q60, .int 0, .int 0, .ref b_q71, .ref b_q82, .int 0, .int (-1), .ref b_q98, .ref b_q109, .ref b_q120, .int 0, .int 0, .ref b_q131, .ref b_q142, .ref b_q153, .ref b_q167, .ref b_q176, .int 0, .ref b_q182, .ref b_q195, .ref b_q203, .ref b_q211, .ref b_q219, .int 0, .int (-1), .ref b_q233, .ref b_q242, .ref b_q251, .ref b_q260, .ref b_q266, .ref b_q277, .ref b_q288, .ref b_q299, .ref b_q310, .int 0, .ref b_q324, .ref b_q333, .ref b_q342, .ref b_q350, .ref b_q358, .ref b_q366, .ref b_q375, .int 0])), (b_q5, .inr (14, [.ref b_q5_q7, .int 0])), (b_q5_q7, .inl (tA 0, 16, .inl (fun _ => 0)))] H) (hD : va_D A [(x0, .inr (0, [.ref a_q8, .int 0, .ref a_q19, .ref a_q30, .ref a_q41, .ref a_q52, .int 0, .int (-1), .int (-1), .ref a_q78, .ref a_q89, .ref a_q104, .ref a_q115, .ref a_q126, .ref a_q137, .ref a_q148, .ref a_q159, .ref a_q173, .int 0])), (a_q8, .inl (tA 2, 256, .inl (fun _ => 0))), (y0, .inr (13, [.int 0, .ref b_q5, .ref b_q16, .ref b_q27, .ref b_q38, .ref b_q49, .ref b_q60, .int 0, .int 0, .ref b_q71, .ref b_q82, .int 0, .int (-1), .ref b_q98, .ref b_q109, .ref b_q120, .int 0, .int 0, .ref b_q131, .ref b_q142, .ref b_q153, .ref b_q167, .ref b_q176, .int 0, .ref b_q182, .ref b_q195, .ref b_q203, .ref b_q211, .ref b_q219, .int 0, .int (-1), .ref b_q233, .ref b_q242, .ref b_q251, .ref b_q260, .ref b_q266, .ref b_q277, .ref b_q288, .ref b_q299, .ref b_q310, .int 0, .ref b_q324, .ref b_q333, .ref b_q342, .ref b_q350, .ref b_q358, .ref b_q366, .ref b_q375, .int 0])), (b_q5, .inr (14, [.ref b_q5_q7, .int 0])), (b_q5_q7, .inl (tA 0, 16, .inl (fun _ => 0)))]) (hS : va_S A s.heap H locs) (hl : lv_has ls 7 [(4, .int 0), (3, .ref oa), (2, .ref y0), (1, .ref x0), (0, .ref b)])
    (kk : ∀ (H1 : Heap) (locs1 : List Loc) (ls1 : Array Slot) (c1 s1 : Nat), c1 ≤ 600002 → s1 ≤ 7302231 → va_S A s.heap H1 locs1 → lv_has ls1 7 [(4, .int 0), (0, .ref b)] → W p l e room_1 s m #[Value.ref b] below meth c H1 locs1 c1 s1 Q (F0 m 1155 ls1 [])) :
    W p l e room_1 s m #[Value.ref b] below meth c H locs 21429 651797 Q (F0 m 164 ls []) := by
  refine lv_aload_n hx hb d_law_164 rfl (lv_at hl 3 rfl) ?_
  refine lv_aload_n hx hb d_law_165 rfl (lv_at hl 4 rfl) ?_
  refine lv_iload hx hb d_law_166 (lv_at hl 0 rfl) ?_
  refine lv_iconst (v := 1) hx hb d_law_168 (by decide) ?_
  refine lv_iadd hx hb d_law_169 ?_
  rw [show (0 : Int32) + 1 = 1 from by decide]
  refine va_sld hx hb hX hbl (hAn b hbl) hS (vp_in_iff.mpr (by decide)) d_law_170 ?_
  refine W.eq (g2 := F0 m 171 ls [.int (xs 1), .ref x0]) rfl ?_
  refine lv_aload_n hx hb d_law_171 rfl (lv_at hl 4 rfl) ?_
  refine lv_iload hx hb d_law_172 (lv_at hl 0 rfl) ?_
  refine lv_iconst (v := 2) hx hb d_law_174 (by decide) ?_
  refine lv_iadd hx hb d_law_175 ?_
  rw [show (0 : Int32) + 2 = 2 from by decide]
  refine va_sld hx hb hX hbl (hAn b hbl) hS (vp_in_iff.mpr (by decide)) d_law_176 ?_
  refine W.eq (g2 := F0 m 177 ls [.int (xs 2), .int (xs 1), .ref x0]) rfl ?_
  refine lv_aload_n hx hb d_law_177 rfl (lv_at hl 4 rfl) ?_
  refine lv_iload hx hb d_law_178 (lv_at hl 0 rfl) ?_
  refine lv_iconst (v := 3) hx hb d_law_180 (by decide) ?_
  refine lv_iadd hx hb d_law_181 ?_
  rw [show (0 : Int32) + 3 = 3 from by decide]
  refine va_sld hx hb hX hbl (hAn b hbl) hS (vp_in_iff.mpr (by decide)) d_law_182 ?_
  refine W.eq (g2 := F0 m 183 ls [.int (xs 3), .int (xs 2), .int (xs 1), .ref x0]) rfl ?_
  refine lv_aload_n hx hb d_law_183 rfl (lv_at hl 4 rfl) ?_
  refine lv_iload hx hb d_law_184 (lv_at hl 0 rfl) ?_
  refine lv_iconst (v := 4) hx hb d_law_186 (by decide) ?_
  refine lv_iadd hx hb d_law_187 ?_
  rw [show (0 : Int32) + 4 = 4 from by decide]
  refine va_sld hx hb hX hbl (hAn b hbl) hS (vp_in_iff.mpr (by decide)) d_law_188 ?_
  refine W.eq (g2 := F0 m 189 ls [.int (xs 4), .int (xs 3), .int (xs 2), .int (xs 1), .ref x0]) rfl ?_
  refine lv_aload_n hx hb d_law_189 rfl (lv_at hl 4 rfl) ?_
  refine lv_iload hx hb d_law_190 (lv_at hl 0 rfl) ?_
  refine lv_iconst (v := 5) hx hb d_law_192 (by decide) ?_
  refine lv_iadd hx hb d_law_193 ?_
  rw [show (0 : Int32) + 5 = 5 from by decide]
  refine va_sld hx hb hX hbl (hAn b hbl) hS (vp_in_iff.mpr (by decide)) d_law_194 ?_
  refine W.eq (g2 := F0 m 195 ls [.int (xs 5), .int (xs 4), .int (xs 3), .int (xs 2), .int (xs 1), .ref x0]) rfl ?_
  refine zCalli (wc := [(x0, .inr (0, [.ref a_q8, .int 0, .ref a_q19, .ref a_q30, .ref a_q41, .ref a_q52, .int 0, .int (-1), .int (-1), .ref a_q78, .ref a_q89, .ref a_q104, .ref a_q115, .ref a_q126, .ref a_q137, .ref a_q148, .ref a_q159, .ref a_q173, .int 0])), (a_q8, .inl (tA 2, 256, .inl (fun _ => 0)))]) (wr := [(y0, .inr (13, [.int 0, .ref b_q5, .ref b_q16, .ref b_q27, .ref b_q38, .ref b_q49, .ref b_q60, .int 0, .int 0, .ref b_q71, .ref b_q82, .int 0, .int (-1), .ref b_q98, .ref b_q109, .ref b_q120, .int 0, .int 0, .ref b_q131, .ref b_q142, .ref b_q153, .ref b_q167, .ref b_q176, .int 0, .ref b_q182, .ref b_q195, .ref b_q203, .ref b_q211, .ref b_q219, .int 0, .int (-1), .ref b_q233, .ref b_q242, .ref b_q251, .ref b_q260, .ref b_q266, .ref b_q277, .ref b_q288, .ref b_q299, .ref b_q310, .int 0, .ref b_q324, .ref b_q333, .ref b_q342, .ref b_q350, .ref b_q358, .ref b_q366, .ref b_q375, .int 0])), (b_q5, .inr (14, [.ref b_q5_q7, .int 0])), (b_q5_q7, .inl (tA 0, 16, .inl (fun _ => 0)))]) hP hD hS hA [0, 1] [2, 3, 4] rfl rfl (by decide) (by decide) (va_runV (As := [.int (xs 1), .int (xs 2), .int (xs 3), .int (xs 4), .int (xs 5)]) (rest := []) ⟨hx, hb, hml, hown, hg⟩ (c_CA_feed_room l D tA _ x0 a_q8 256 0 [.ref a_q8, .int 0, .ref a_q19, .ref a_q30, .ref a_q41, .ref a_q52, .int 0, .int (-1), .int (-1), .ref a_q78, .ref a_q89, .ref a_q104, .ref a_q115, .ref a_q126, .ref a_q137, .ref a_q148, .ref a_q159, .ref a_q173, .int 0] (fun _ => 0) (xs 1) (xs 2) (xs 3) (xs 4) (xs 5) (by decide) (by decide) (by decide) rfl rfl) (zV 5 hg k4_5 k4_6 k4_7 k1_1 k4_8 rfl rfl (by decide +kernel) ⟨(Nat.le_of_ble_eq_true rfl), (Nat.le_of_ble_eq_true rfl)⟩) (zPreV hh hK hP hD [0, 1] (by decide) rfl (ci := 0) rfl 0 rfl) rfl rfl hl.1 rfl (lv_room (Nat.le_of_ble_eq_true rfl)) d_law_195 ⟨(Nat.le_of_ble_eq_true rfl), (Nat.le_of_ble_eq_true rfl)⟩) (fun r9 _ H1 locs1 e9 hP1 hD1 hS1 => ?_)
  clear hP hD hS
  replace e9 : r9 = 20 := e9.trans (by decide)
  subst e9
  replace hP1 : va_P D vwCl [(y0, .inr (13, [.int 0, .ref b_q5, .ref b_q16, .ref b_q27, .ref b_q38, .ref b_q49, .ref b_q60, .int 0, .int 0, .ref b_q71, .ref b_q82, .int 0, .int (-1), .ref b_q98, .ref b_q109, .ref b_q120, .int 0, .int 0, .ref b_q131, .ref b_q142, .ref b_q153, .ref b_q167, .ref b_q176, .int 0, .ref b_q182, .ref b_q195, .ref b_q203, .ref b_q211, .ref b_q219, .int 0, .int (-1), .ref b_q233, .ref b_q242, .ref b_q251, .ref b_q260, .ref b_q266, .ref b_q277, .ref b_q288, .ref b_q299, .ref b_q310, .int 0, .ref b_q324, .ref b_q333, .ref b_q342, .ref b_q350, .ref b_q358, .ref b_q366, .ref b_q375, .int 0])), (b_q5, .inr (14, [.ref b_q5_q7, .int 0])), (b_q5_q7, .inl (tA 0, 16, .inl (fun _ => 0))), (x0, .inr (0, [.ref a_q8, .int (nI (0 + 20)), .ref a_q19, .ref a_q30, .ref a_q41, .ref a_q52, .int 0, .int (-1), .int (-1), .ref a_q78, .ref a_q89, .ref a_q104, .ref a_q115, .ref a_q126, .ref a_q137, .ref a_q148, .ref a_q159, .ref a_q173, .int 0])), (a_q8, .inl (tA 2, 256, .inl (four4 (four4 (four4 (four4 (four4 (fun _ => 0) (0) (xs 1)) (0 + 4) (xs 2)) (0 + 8) (xs 3)) (0 + 12) (xs 4)) (0 + 16) (xs 5))))] _ := hP1
  replace hD1 : va_D A [(y0, .inr (13, [.int 0, .ref b_q5, .ref b_q16, .ref b_q27, .ref b_q38, .ref b_q49, .ref b_q60, .int 0, .int 0, .ref b_q71, .ref b_q82, .int 0, .int (-1), .ref b_q98, .ref b_q109, .ref b_q120, .int 0, .int 0, .ref b_q131, .ref b_q142, .ref b_q153, .ref b_q167, .ref b_q176, .int 0, .ref b_q182, .ref b_q195, .ref b_q203, .ref b_q211, .ref b_q219, .int 0, .int (-1), .ref b_q233, .ref b_q242, .ref b_q251, .ref b_q260, .ref b_q266, .ref b_q277, .ref b_q288, .ref b_q299, .ref b_q310, .int 0, .ref b_q324, .ref b_q333, .ref b_q342, .ref b_q350, .ref b_q358, .ref b_q366, .ref b_q375, .int 0])), (b_q5, .inr (14, [.ref b_q5_q7, .int 0])), (b_q5_q7, .inl (tA 0, 16, .inl (fun _ => 0))), (x0, .inr (0, [.ref a_q8, .int (nI (0 + 20)), .ref a_q19, .ref a_q30, .ref a_q41, .ref a_q52, .int 0, .int (-1), .int (-1), .ref a_q78, .ref a_q89, .ref a_q104, .ref a_q115, .ref a_q126, .ref a_q137, .ref a_q148, .ref a_q159, .ref a_q173, .int 0])), (a_q8, .inl (tA 2, 256, .inl (four4 (four4 (four4 (four4 (four4 (fun _ => 0) (0) (xs 1)) (0 + 4) (xs 2)) (0 + 8) (xs 3)) (0 + 12) (xs 4)) (0 + 16) (xs 5))))] := hD1
  refine lv_aload_n hx hb d_law_198 rfl (lv_at hl 2 rfl) ?_
  refine lv_aload_n hx hb d_law_199 rfl (lv_at hl 4 rfl) ?_
  refine lv_iload hx hb d_law_200 (lv_at hl 0 rfl) ?_
  refine lv_iconst (v := 1) hx hb d_law_202 (by decide) ?_
  refine lv_iadd hx hb d_law_203 ?_
  rw [show (0 : Int32) + 1 = 1 from by decide]
  refine va_sld hx hb hX hbl (hAn b hbl) hS1 (vp_in_iff.mpr (by decide)) d_law_204 ?_
  refine W.eq (g2 := F0 m 205 ls [.int (xs 1), .ref y0, .int 20]) rfl ?_
  refine lv_aload_n hx hb d_law_205 rfl (lv_at hl 4 rfl) ?_
  refine lv_iload hx hb d_law_206 (lv_at hl 0 rfl) ?_
  refine lv_iconst (v := 2) hx hb d_law_208 (by decide) ?_
  refine lv_iadd hx hb d_law_209 ?_
  rw [show (0 : Int32) + 2 = 2 from by decide]
  refine va_sld hx hb hX hbl (hAn b hbl) hS1 (vp_in_iff.mpr (by decide)) d_law_210 ?_
  refine W.eq (g2 := F0 m 211 ls [.int (xs 2), .int (xs 1), .ref y0, .int 20]) rfl ?_
  refine lv_aload_n hx hb d_law_211 rfl (lv_at hl 4 rfl) ?_
  refine lv_iload hx hb d_law_212 (lv_at hl 0 rfl) ?_
  refine lv_iconst (v := 3) hx hb d_law_214 (by decide) ?_
  refine lv_iadd hx hb d_law_215 ?_
  rw [show (0 : Int32) + 3 = 3 from by decide]
  refine va_sld hx hb hX hbl (hAn b hbl) hS1 (vp_in_iff.mpr (by decide)) d_law_216 ?_
  refine W.eq (g2 := F0 m 217 ls [.int (xs 3), .int (xs 2), .int (xs 1), .ref y0, .int 20]) rfl ?_
  refine lv_aload_n hx hb d_law_217 rfl (lv_at hl 4 rfl) ?_
  refine lv_iload hx hb d_law_218 (lv_at hl 0 rfl) ?_
  refine lv_iconst (v := 4) hx hb d_law_220 (by decide) ?_
  refine lv_iadd hx hb d_law_221 ?_
  rw [show (0 : Int32) + 4 = 4 from by decide]
  refine va_sld hx hb hX hbl (hAn b hbl) hS1 (vp_in_iff.mpr (by decide)) d_law_222 ?_
  refine W.eq (g2 := F0 m 223 ls [.int (xs 4), .int (xs 3), .int (xs 2), .int (xs 1), .ref y0, .int 20]) rfl ?_
  refine lv_aload_n hx hb d_law_223 rfl (lv_at hl 4 rfl) ?_
  refine lv_iload hx hb d_law_224 (lv_at hl 0 rfl) ?_
  refine lv_iconst (v := 5) hx hb d_law_226 (by decide) ?_
  refine lv_iadd hx hb d_law_227 ?_
  rw [show (0 : Int32) + 5 = 5 from by decide]
  refine va_sld hx hb hX hbl (hAn b hbl) hS1 (vp_in_iff.mpr (by decide)) d_law_228 ?_
  refine W.eq (g2 := F0 m 229 ls [.int (xs 5), .int (xs 4), .int (xs 3), .int (xs 2), .int (xs 1), .ref y0, .int 20]) rfl ?_
  refine zCalli (wc := [(y0, .inr (13, [.int 0, .ref b_q5, .ref b_q16, .ref b_q27, .ref b_q38, .ref b_q49, .ref b_q60, .int 0, .int 0, .ref b_q71, .ref b_q82, .int 0, .int (-1), .ref b_q98, .ref b_q109, .ref b_q120, .int 0, .int 0, .ref b_q131, .ref b_q142, .ref b_q153, .ref b_q167, .ref b_q176, .int 0, .ref b_q182, .ref b_q195, .ref b_q203, .ref b_q211, .ref b_q219, .int 0, .int (-1), .ref b_q233, .ref b_q242, .ref b_q251, .ref b_q260, .ref b_q266, .ref b_q277, .ref b_q288, .ref b_q299, .ref b_q310, .int 0, .ref b_q324, .ref b_q333, .ref b_q342, .ref b_q350, .ref b_q358, .ref b_q366, .ref b_q375, .int 0])), (b_q5, .inr (14, [.ref b_q5_q7, .int 0])), (b_q5_q7, .inl (tA 0, 16, .inl (fun _ => 0)))]) (wr := [(x0, .inr (0, [.ref a_q8, .int (nI (0 + 20)), .ref a_q19, .ref a_q30, .ref a_q41, .ref a_q52, .int 0, .int (-1), .int (-1), .ref a_q78, .ref a_q89, .ref a_q104, .ref a_q115, .ref a_q126, .ref a_q137, .ref a_q148, .ref a_q159, .ref a_q173, .int 0])), (a_q8, .inl (tA 2, 256, .inl (four4 (four4 (four4 (four4 (four4 (fun _ => 0) (0) (xs 1)) (0 + 4) (xs 2)) (0 + 8) (xs 3)) (0 + 12) (xs 4)) (0 + 16) (xs 5))))]) hP1 hD1 hS1 hA [0, 1, 2] [3, 4] rfl rfl (by decide) (by decide) (va_runV (As := [.int (xs 1), .int (xs 2), .int (xs 3), .int (xs 4), .int (xs 5)]) (rest := [.int 20]) ⟨hx, hb, hml, hown, hg⟩ (c_MM_feed_0 l D tA _ y0 b_q5 b_q5_q7 [.int 0, .ref b_q5, .ref b_q16, .ref b_q27, .ref b_q38, .ref b_q49, .ref b_q60, .int 0, .int 0, .ref b_q71, .ref b_q82, .int 0, .int (-1), .ref b_q98, .ref b_q109, .ref b_q120, .int 0, .int 0, .ref b_q131, .ref b_q142, .ref b_q153, .ref b_q167, .ref b_q176, .int 0, .ref b_q182, .ref b_q195, .ref b_q203, .ref b_q211, .ref b_q219, .int 0, .int (-1), .ref b_q233, .ref b_q242, .ref b_q251, .ref b_q260, .ref b_q266, .ref b_q277, .ref b_q288, .ref b_q299, .ref b_q310, .int 0, .ref b_q324, .ref b_q333, .ref b_q342, .ref b_q350, .ref b_q358, .ref b_q366, .ref b_q375, .int 0] (fun _ => 0) (xs 1) (xs 2) (xs 3) (xs 4) (xs 5) rfl rfl) (zV 5 hg k10_233 k10_234 k10_235 k1_14 k10_236 rfl rfl (by decide +kernel) ⟨(Nat.le_of_ble_eq_true rfl), (Nat.le_of_ble_eq_true rfl)⟩) (zPreV hh hK hP1 hD1 [0, 1, 2] (by decide) rfl (ci := 13) rfl 0 rfl) rfl rfl hl.1 rfl (lv_room (Nat.le_of_ble_eq_true rfl)) d_law_229 ⟨(Nat.le_of_ble_eq_true rfl), (Nat.le_of_ble_eq_true rfl)⟩) (fun r9 qn H2 locs2 e9 hP2 hD2 hS2 => ?_)
  clear hP1 hD1 hS1
  refine W.cs (cells' := 21430) (slots' := 651829) rfl rfl ?_
  replace e9 : r9 = 20 := e9
  subst e9
  replace hP2 : va_P D vwCl [(x0, .inr (0, [.ref a_q8, .int (nI (0 + 20)), .ref a_q19, .ref a_q30, .ref a_q41, .ref a_q52, .int 0, .int (-1), .int (-1), .ref a_q78, .ref a_q89, .ref a_q104, .ref a_q115, .ref a_q126, .ref a_q137, .ref a_q148, .ref a_q159, .ref a_q173, .int 0])), (a_q8, .inl (tA 2, 256, .inl (four4 (four4 (four4 (four4 (four4 (fun _ => 0) (0) (xs 1)) (0 + 4) (xs 2)) (0 + 8) (xs 3)) (0 + 12) (xs 4)) (0 + 16) (xs 5)))), (y0, .inr (13, [.int 0, .ref b_q5, .ref b_q16, .ref b_q27, .ref b_q38, .ref b_q49, .ref b_q60, .int 0, .int 0, .ref b_q71, .ref b_q82, .int 0, .int (-1), .ref b_q98, .ref b_q109, .ref b_q120, .int 0, .int 0, .ref b_q131, .ref b_q142, .ref b_q153, .ref b_q167, .ref b_q176, .int 0, .ref b_q182, .ref b_q195, .ref b_q203, .ref b_q211, .ref b_q219, .int 0, .int (-1), .ref b_q233, .ref b_q242, .ref b_q251, .ref b_q260, .ref b_q266, .ref b_q277, .ref b_q288, .ref b_q299, .ref b_q310, .int 0, .ref b_q324, .ref b_q333, .ref b_q342, .ref b_q350, .ref b_q358, .ref b_q366, .ref b_q375, .int 0])), (b_q5_q7, .inl (tA 0, 16, .inl (upd ((upd ((upd ((upd ((upd ((upd ((upd ((upd ((upd ((upd ((upd ((upd ((upd ((upd ((upd ((upd ((fun _ => 0)) 0 ((((xs 1) >>> (24 &&& 31)) &&& 255)))) 1 ((((xs 1) >>> (16 &&& 31)) &&& 255)))) 2 ((((xs 1) >>> (8 &&& 31)) &&& 255)))) 3 ((((xs 1) >>> (0 &&& 31)) &&& 255)))) 4 ((((xs 2) >>> (24 &&& 31)) &&& 255)))) 5 ((((xs 2) >>> (16 &&& 31)) &&& 255)))) 6 ((((xs 2) >>> (8 &&& 31)) &&& 255)))) 7 ((((xs 2) >>> (0 &&& 31)) &&& 255)))) 8 ((((xs 3) >>> (24 &&& 31)) &&& 255)))) 9 ((((xs 3) >>> (16 &&& 31)) &&& 255)))) 10 ((((xs 3) >>> (8 &&& 31)) &&& 255)))) 11 ((((xs 3) >>> (0 &&& 31)) &&& 255)))) 12 ((((xs 4) >>> (24 &&& 31)) &&& 255)))) 13 ((((xs 4) >>> (16 &&& 31)) &&& 255)))) 14 ((((xs 4) >>> (8 &&& 31)) &&& 255)))) 15 ((((xs 4) >>> (0 &&& 31)) &&& 255))))), (b_q5, .inr (14, [.ref qn, .int 20])), (qn, .inl (tA 0, 32, .inl (upd ((upd ((upd ((upd (fun j => if j < 16 then (upd ((upd ((upd ((upd ((upd ((upd ((upd ((upd ((upd ((upd ((upd ((upd ((upd ((upd ((upd ((upd ((fun _ => 0)) 0 ((((xs 1) >>> (24 &&& 31)) &&& 255)))) 1 ((((xs 1) >>> (16 &&& 31)) &&& 255)))) 2 ((((xs 1) >>> (8 &&& 31)) &&& 255)))) 3 ((((xs 1) >>> (0 &&& 31)) &&& 255)))) 4 ((((xs 2) >>> (24 &&& 31)) &&& 255)))) 5 ((((xs 2) >>> (16 &&& 31)) &&& 255)))) 6 ((((xs 2) >>> (8 &&& 31)) &&& 255)))) 7 ((((xs 2) >>> (0 &&& 31)) &&& 255)))) 8 ((((xs 3) >>> (24 &&& 31)) &&& 255)))) 9 ((((xs 3) >>> (16 &&& 31)) &&& 255)))) 10 ((((xs 3) >>> (8 &&& 31)) &&& 255)))) 11 ((((xs 3) >>> (0 &&& 31)) &&& 255)))) 12 ((((xs 4) >>> (24 &&& 31)) &&& 255)))) 13 ((((xs 4) >>> (16 &&& 31)) &&& 255)))) 14 ((((xs 4) >>> (8 &&& 31)) &&& 255)))) 15 ((((xs 4) >>> (0 &&& 31)) &&& 255))) j else 0) 16 ((((xs 5) >>> (24 &&& 31)) &&& 255)))) 17 ((((xs 5) >>> (16 &&& 31)) &&& 255)))) 18 ((((xs 5) >>> (8 &&& 31)) &&& 255)))) 19 ((((xs 5) >>> (0 &&& 31)) &&& 255)))))] _ := hP2
  replace hD2 : va_D A [(x0, .inr (0, [.ref a_q8, .int (nI (0 + 20)), .ref a_q19, .ref a_q30, .ref a_q41, .ref a_q52, .int 0, .int (-1), .int (-1), .ref a_q78, .ref a_q89, .ref a_q104, .ref a_q115, .ref a_q126, .ref a_q137, .ref a_q148, .ref a_q159, .ref a_q173, .int 0])), (a_q8, .inl (tA 2, 256, .inl (four4 (four4 (four4 (four4 (four4 (fun _ => 0) (0) (xs 1)) (0 + 4) (xs 2)) (0 + 8) (xs 3)) (0 + 12) (xs 4)) (0 + 16) (xs 5)))), (y0, .inr (13, [.int 0, .ref b_q5, .ref b_q16, .ref b_q27, .ref b_q38, .ref b_q49, .ref b_q60, .int 0, .int 0, .ref b_q71, .ref b_q82, .int 0, .int (-1), .ref b_q98, .ref b_q109, .ref b_q120, .int 0, .int 0, .ref b_q131, .ref b_q142, .ref b_q153, .ref b_q167, .ref b_q176, .int 0, .ref b_q182, .ref b_q195, .ref b_q203, .ref b_q211, .ref b_q219, .int 0, .int (-1), .ref b_q233, .ref b_q242, .ref b_q251, .ref b_q260, .ref b_q266, .ref b_q277, .ref b_q288, .ref b_q299, .ref b_q310, .int 0, .ref b_q324, .ref b_q333, .ref b_q342, .ref b_q350, .ref b_q358, .ref b_q366, .ref b_q375, .int 0])), (b_q5_q7, .inl (tA 0, 16, .inl (upd ((upd ((upd ((upd ((upd ((upd ((upd ((upd ((upd ((upd ((upd ((upd ((upd ((upd ((upd ((upd ((fun _ => 0)) 0 ((((xs 1) >>> (24 &&& 31)) &&& 255)))) 1 ((((xs 1) >>> (16 &&& 31)) &&& 255)))) 2 ((((xs 1) >>> (8 &&& 31)) &&& 255)))) 3 ((((xs 1) >>> (0 &&& 31)) &&& 255)))) 4 ((((xs 2) >>> (24 &&& 31)) &&& 255)))) 5 ((((xs 2) >>> (16 &&& 31)) &&& 255)))) 6 ((((xs 2) >>> (8 &&& 31)) &&& 255)))) 7 ((((xs 2) >>> (0 &&& 31)) &&& 255)))) 8 ((((xs 3) >>> (24 &&& 31)) &&& 255)))) 9 ((((xs 3) >>> (16 &&& 31)) &&& 255)))) 10 ((((xs 3) >>> (8 &&& 31)) &&& 255)))) 11 ((((xs 3) >>> (0 &&& 31)) &&& 255)))) 12 ((((xs 4) >>> (24 &&& 31)) &&& 255)))) 13 ((((xs 4) >>> (16 &&& 31)) &&& 255)))) 14 ((((xs 4) >>> (8 &&& 31)) &&& 255)))) 15 ((((xs 4) >>> (0 &&& 31)) &&& 255))))), (b_q5, .inr (14, [.ref qn, .int 20])), (qn, .inl (tA 0, 32, .inl (upd ((upd ((upd ((upd (fun j => if j < 16 then (upd ((upd ((upd ((upd ((upd ((upd ((upd ((upd ((upd ((upd ((upd ((upd ((upd ((upd ((upd ((upd ((fun _ => 0)) 0 ((((xs 1) >>> (24 &&& 31)) &&& 255)))) 1 ((((xs 1) >>> (16 &&& 31)) &&& 255)))) 2 ((((xs 1) >>> (8 &&& 31)) &&& 255)))) 3 ((((xs 1) >>> (0 &&& 31)) &&& 255)))) 4 ((((xs 2) >>> (24 &&& 31)) &&& 255)))) 5 ((((xs 2) >>> (16 &&& 31)) &&& 255)))) 6 ((((xs 2) >>> (8 &&& 31)) &&& 255)))) 7 ((((xs 2) >>> (0 &&& 31)) &&& 255)))) 8 ((((xs 3) >>> (24 &&& 31)) &&& 255)))) 9 ((((xs 3) >>> (16 &&& 31)) &&& 255)))) 10 ((((xs 3) >>> (8 &&& 31)) &&& 255)))) 11 ((((xs 3) >>> (0 &&& 31)) &&& 255)))) 12 ((((xs 4) >>> (24 &&& 31)) &&& 255)))) 13 ((((xs 4) >>> (16 &&& 31)) &&& 255)))) 14 ((((xs 4) >>> (8 &&& 31)) &&& 255)))) 15 ((((xs 4) >>> (0 &&& 31)) &&& 255))) j else 0) 16 ((((xs 5) >>> (24 &&& 31)) &&& 255)))) 17 ((((xs 5) >>> (16 &&& 31)) &&& 255)))) 18 ((((xs 5) >>> (8 &&& 31)) &&& 255)))) 19 ((((xs 5) >>> (0 &&& 31)) &&& 255)))))] := hD2
  refine lv_icmp_eq (tgt := 1155) hx hb d_law_232 (by decide) (fun _ => ?_) (fun c9 => absurd rfl c9)
  exact kk _ _ _ _ _ (Nat.le_of_ble_eq_true rfl) (Nat.le_of_ble_eq_true rfl) hS2 (lv_sub hl [0, 4] rfl)
