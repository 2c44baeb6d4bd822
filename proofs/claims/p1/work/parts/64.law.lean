theorem k1_40 : (Jvm.Cond.classLink "ChanceArenaLaw" (8 : Nat) "ChanceArena") ∈ lw_R := zR (zk_1 _ (List.mem_of_getElem? (i := 40) (by decide +kernel))) rfl
theorem k1_42 : (Jvm.Cond.methodLink "ChanceArenaLaw" (43 : Nat) ({ cls := "ChanceArena", name := "<init>", desc := "()V" } : Jvm.MethodName)) ∈ lw_R := zR (zk_1 _ (List.mem_of_getElem? (i := 42) (by decide +kernel))) rfl
theorem k1_43 : (Jvm.Cond.instanceMethod ({ cls := "ChanceArena", name := "<init>", desc := "()V" } : Jvm.MethodName)) ∈ lw_R := zR (zk_1 _ (List.mem_of_getElem? (i := 43) (by decide +kernel))) rfl
theorem k8_234 : (Jvm.Cond.classLink "ChanceArenaLaw" (44 : Nat) "ChanceArenaModel") ∈ lw_R := zR (zk_8 _ (List.mem_of_getElem? (i := 234) (by decide +kernel))) rfl
theorem k8_236 : (Jvm.Cond.methodLink "ChanceArenaLaw" (46 : Nat) ({ cls := "ChanceArenaModel", name := "<init>", desc := "()V" } : Jvm.MethodName)) ∈ lw_R := zR (zk_8 _ (List.mem_of_getElem? (i := 236) (by decide +kernel))) rfl
theorem k8_237 : (Jvm.Cond.instanceMethod ({ cls := "ChanceArenaModel", name := "<init>", desc := "()V" } : Jvm.MethodName)) ∈ lw_R := zR (zk_8 _ (List.mem_of_getElem? (i := 237) (by decide +kernel))) rfl
theorem d_law_1161 : decode code 1161 = .ok (.iconst 1, 1) := dc9_4 (by decide +kernel)
theorem d_law_1162 : decode code 1162 = .ok (.ireturn, 1) := dc9_172 (by decide +kernel)
theorem d_law_1155 : decode code 1155 = .ok (.iinc 4 6, 3) := by decide +kernel
theorem d_law_1158 : decode code 1158 = .ok (.goto (-1135), 3) := dc9_167 (by decide +kernel)
theorem d_law_23 : decode code 23 = .ok (.iload 4, 2) := dc9_21 (by decide +kernel)
theorem d_law_25 : decode code 25 = .ok (.aload_n 0, 1) := dc9_42 (by decide +kernel)
theorem d_law_26 : decode code 26 = .ok (.arraylength, 1) := dc9_190 (by decide +kernel)
theorem d_law_27 : decode code 27 = .ok (.bipush 6, 2) := dc9_16 (by decide +kernel)
theorem d_law_29 : decode code 29 = .ok (.isub, 1) := dc9_100 (by decide +kernel)
theorem d_law_30 : decode code 30 = .ok (.if_icmp .gt 1131, 3) := dc9_163 (by decide +kernel)
theorem d_law_0 : decode code 0 = .ok (.new 8, 3) := dc9_187 (by decide +kernel)
theorem d_law_3 : decode code 3 = .ok (.dup, 1) := dc9_89 (by decide +kernel)
theorem d_law_4 : decode code 4 = .ok (.invokespecial 43, 3) := dc9_183 (by decide +kernel)
theorem d_law_7 : decode code 7 = .ok (.astore_n 1, 1) := dc9_76 (by decide +kernel)
theorem d_law_8 : decode code 8 = .ok (.new 44, 3) := dc9_187 (by decide +kernel)
theorem d_law_11 : decode code 11 = .ok (.dup, 1) := dc9_89 (by decide +kernel)
theorem d_law_12 : decode code 12 = .ok (.invokespecial 46, 3) := dc9_183 (by decide +kernel)
theorem d_law_15 : decode code 15 = .ok (.astore_n 2, 1) := dc9_77 (by decide +kernel)
theorem d_law_16 : decode code 16 = .ok (.iconst 1, 1) := dc9_4 (by decide +kernel)
theorem d_law_17 : decode code 17 = .ok (.newarray .long, 2) := by decide +kernel
theorem d_law_19 : decode code 19 = .ok (.astore_n 3, 1) := dc9_78 (by decide +kernel)
theorem d_law_20 : decode code 20 = .ok (.iconst 0, 1) := dc9_3 (by decide +kernel)
theorem d_law_21 : decode code 21 = .ok (.istore 4, 2) := dc9_54 (by decide +kernel)
/-! THE CLAIM OUT OF ONE WALK OF THE LAW'S BODY. Your part is whole_start (and what it stands on); all else here is the same for every law, but numbers. -/
def R_law : String := "ChanceArenaLaw"
def lw_P (b : Addr) (xs : List Int32) (args : Array Value) (s : State) : Prop := args = #[.ref b] ∧ s.IntsAt b xs ∧ xs.length ≤ 6 ∧ (Jvm.Cond.and given_1 narrow_1).before args s = true
def lw_Q (_ : Array Value) (s : State) (o : Outcome) (t : State) : Prop := o = .returned (some (.int 1)) ∧ Framed s o t [] 600002 7302231
def lw_Z (below : List Frame) (a : Array Value) (s : State) : State → Prop := fun t => ∃ o, t.status = .running ∧ Ended t below o ∧ lw_Q a s o t
/-- the law's own end, with 1 on the stack, nothing written that was there before, its room as the claim has it -/
theorem lw_ret {p : Program} {l : Launch} {e : Env} {s : State} {m : MethodId} {below : List Frame} {meth : Method} {c : Code} {b : Nat} (hx : p.tables.exec = Jvm.exec) (hb : c.code = code) (hr : meth.sig.returnType = ret) (hlocks : meth.locks = false) {pc : Nat} {H : Heap} {ls : Array Slot} (hdg : decode code pc = .ok (.ireturn, 1)) : W p l e room_1 s m #[Value.ref b] below meth c H [] 600002 7302231 (lw_Z below #[Value.ref b] s) (F0 m pc ls [.int 1]) := by
  intro T hT X
  obtain ⟨fs, hret, hrun, hended, hW, hframe⟩ := X.leave (v := some (.int 1)) (hlocks := hlocks) (fun h => by rw [hr] at h; cases h)
  have hmeth' : T.vm.method? m = some meth := X.method'
  refine ⟨T.setFrames fs, ?_, .returned (some (.int 1)), hrun, hended, rfl, ⟨_, rfl⟩, hW, hframe⟩
  jvm_step X.here [X.here.top, hx, hb, hdg, hmeth', hr, ret, narrow_b1]
  (try refine ⟨rfl, ?_⟩); (try refine ⟨rfl, ?_⟩)
  first | (intro acts; rw [hret _ acts rfl rfl rfl]) | rw [hret _ _ rfl rfl rfl]
  exact Steps.refl _
/-- what holds at the law's entry: the machine, the code, the tables' words (any of lw_tbl by 'hts w (by decide +kernel)'), the script of L ints xs at the cell b, what the Statement gives of the start (any of its parts by flat_of_before) -/
def lw_At (p : Program) (s : State) (m : MethodId) (meth : Method) (c : Code) (b L : Nat) (xs : Nat → Int32) : Prop :=
  p.tables.exec = Jvm.exec ∧ c.code = code ∧ meth.sig.returnType = ret ∧ c.maxLocals = 7 ∧ s.vm.findClass R_law = some m.cls ∧ (∀ w ∈ lw_tbl, w.before #[Value.ref b] s = true) ∧ va_X b L xs s s.heap ∧ b < s.heap.size ∧ meth.locks = false ∧ (Jvm.Cond.and given_1 narrow_1).before #[Value.ref b] s = true
set_option maxHeartbeats 4000000 in
/-- the loop's end: no call is left -/
theorem law_out {p : Program} {l : Launch} {e : Env} {s : State} {m : MethodId} {below : List Frame} {meth : Method} {c : Code} {b : Nat} {H : Heap} {locs : List Loc} {ls : Array Slot} {c1 s1 : Nat} (hx : p.tables.exec = Jvm.exec) (hb : c.code = code) (hr : meth.sig.returnType = ret) (hlocks : meth.locks = false) (hc1 : c1 ≤ 600002) (hs1 : s1 ≤ 7302231) (hS : va_S (fun q : Nat => s.heap.size ≤ q) s.heap H locs) : W p l e room_1 s m #[Value.ref b] below meth c H locs c1 s1 (lw_Z below #[Value.ref b] s) (F0 m 1161 ls []) := by
  refine lv_iconst (v := 1) hx hb d_law_1161 (by decide) ?_
  refine va_forget (fun q hq => hS.2.2 q hq) ?_
  refine W.widen (k := 600002) (n := 7302231) hc1 hs1 ?_
  exact lw_ret hx hb hr hlocks d_law_1162
set_option maxHeartbeats 4000000 in
/-- behind the one call -/
theorem law_next {p : Program} {l : Launch} {e : Env} {s : State} {m : MethodId} {below : List Frame} {meth : Method} {c : Code} {b : Nat} {xs : Nat → Int32} {H : Heap} {locs : List Loc} {ls : Array Slot} {c1 s1 : Nat} (hx : p.tables.exec = Jvm.exec) (hb : c.code = code) (hr : meth.sig.returnType = ret) (hlocks : meth.locks = false) (hX : va_X b 6 xs s s.heap) (hbl : b < s.heap.size) (hc1 : c1 ≤ 600002) (hs1 : s1 ≤ 7302231) (hS : va_S (fun q : Nat => s.heap.size ≤ q) s.heap H locs) (hl : lv_has ls 7 [(4, .int 0), (0, .ref b)]) : W p l e room_1 s m #[Value.ref b] below meth c H locs c1 s1 (lw_Z below #[Value.ref b] s) (F0 m 1155 ls []) := by
  refine lv_iinc (v := 6) (lv' := [(4, .int 6), (0, .ref b)]) hx hb d_law_1155 hl (k := 0) rfl (by decide) (by decide) rfl (fun ls hl => ?_)
  refine lv_goto (tgt := 23) hx hb d_law_1158 (by decide) ?_
  refine lv_iload hx hb d_law_23 (lv_at hl 0 rfl) ?_
  refine lv_aload_n hx hb d_law_25 rfl (lv_at hl 1 rfl) ?_
  refine va_slen hx hb hX hbl (Nat.not_le.mpr hbl) hS d_law_26 ?_
  refine lv_bipush (v := 6) hx hb d_law_27 (by decide) ?_
  refine lv_isub hx hb d_law_29 ?_
  refine lv_icmp_gt (tgt := 1161) hx hb d_law_30 (by decide) (fun _ => ?_) (fun c9 => absurd (by decide) c9)
  exact law_out hx hb hr hlocks hc1 hs1 hS
set_option maxHeartbeats 4000000 in
set_option maxRecDepth 100000 in
theorem whole_start {p : Program} {e : Env} {s : State} {m : MethodId} {below : List Frame} {meth : Method} {c : Code} (l : Launch) (htr : l.stackTraces = false) {b L : Nat} {xs : Nat → Int32} (hL : L ≤ 6) (C0 : lw_At p s m meth c b L xs) : W p l e room_1 s m #[Value.ref b] below meth c s.heap [] 0 0 (lw_Z below #[Value.ref b] s) (entryFrame m ([Value.ref b] : List Value).toArray 7) := by
  obtain ⟨hx, hb, hr, hml, hown0, hts, hX, hbl, hlocks, hgv⟩ := id C0
  have hown : s.vm.findClass "ChanceArenaLaw" = some m.cls := hown0
  have hh : zH s := zH.of hts
  have hg := hh.use #[Value.ref b]
  obtain ⟨D, tA, hK⟩ := law_K hg
  have hs := flat_of_before _ hgv
  have h2 : zS2 s.heap.size s s.heap := ⟨zS.of (hts _ (zk_6 _ (List.mem_of_getElem? (i := 45) (by decide +kernel)))) (hs _ (by decide +kernel)), zS.of (hts _ (zk_6 _ (List.mem_of_getElem? (i := 47) (by decide +kernel)))) (hs _ (by decide +kernel))⟩
  have hN : va_Nc "java/lang/IllegalStateException" "java/lang/IllegalArgumentException" s := va_Nc.of (hs _ (by decide +kernel))
  have hA : ∀ q : Nat, s.heap.size ≤ q → (fun q : Nat => s.heap.size ≤ q) q := fun _ h => h
  have hAn : ∀ q : Nat, q < s.heap.size → ¬ (fun q : Nat => s.heap.size ≤ q) q := fun q h => Nat.not_le.mpr h
  have hS : va_S (fun q : Nat => s.heap.size ≤ q) s.heap s.heap [] := va_S.rf
  have hP : va_P D vwCl [] s.heap := fun k q h => by simp at h
  have hD : va_D (fun q : Nat => s.heap.size ≤ q) [] := ⟨fun i j p q h => by simp at h, fun k q h => by simp at h⟩
  have hl := lv_entry ([.ref b]) (n := 7) (Nat.le_of_ble_eq_true rfl)
  rw [lg_entry_eq]
  generalize (lg_sl ([.ref b]) ++ List.replicate (7 - (lg_sl ([.ref b])).length) Slot.unset).toArray = ls at hl ⊢
  have hl : lv_has ls 7 [(0, .ref b)] := hl
  refine va_new (ci := 0) (fs := [.null, .int 0, .null, .null, .null, .null, .int 0, .int 0, .int 0, .null, .null, .null, .null, .null, .null, .null, .null, .null, .int 0]) (C := R_CA) (T := T_CA) (N := 19) hx hb hg i_CA t_CA o_CA hown (hg _ k1_40) (hg _ k1_41) (hg _ k1_1) hK hP hD hS hA rfl f_CA (Nat.le_of_ble_eq_true rfl) (Nat.le_of_ble_eq_true rfl) d_law_0 (fun x0 H1 hP1 hD1 hS1 => ?_)
  clear hP hD hS
  refine lv_dup hx hb d_law_3 rfl ?_
  refine zInit hP1 hD1 hS1 hA (va_runI (As := []) (rest := [.ref x0]) ⟨hx, hb, hml, hown, hg⟩ (c_CA_init l D tA x0 H1.size) (cwI 0 hg (zGood k1_44 rfl) rfl rfl rfl (hg _ k1_1) (hg _ k1_42) (hg _ k1_43) rfl (by decide +kernel) ⟨(Nat.le_of_ble_eq_true rfl), (Nat.le_of_ble_eq_true rfl)⟩) (zPreI hh hK hP1 hD1) rfl rfl hl.1 rfl (lv_room (Nat.le_of_ble_eq_true rfl)) d_law_4 ⟨(Nat.le_of_ble_eq_true rfl), (Nat.le_of_ble_eq_true rfl)⟩) (fun u H2 locs2 _ hP2 hD2 hS2 => ?_)
  clear hP1 hD1 hS1
  refine lv_astore_n (lv' := [(1, .ref x0), (0, .ref b)]) hx hb d_law_7 rfl hl (by decide) rfl (fun ls hl => ?_)
  refine va_new (ci := 13) (fs := [.int 0, .null, .null, .null, .null, .null, .null, .int 0, .int 0, .null, .null, .int 0, .int 0, .null, .null, .null, .int 0, .int 0, .null, .null, .null, .null, .null, .int 0, .null, .null, .null, .null, .null, .int 0, .int 0, .null, .null, .null, .null, .null, .null, .null, .null, .null, .int 0, .null, .null, .null, .null, .null, .null, .null, .int 0]) (C := R_MM) (T := T_MM) (N := 49) hx hb hg i_MM t_MM o_MM hown (hg _ k8_234) (hg _ k8_235) (hg _ k1_14) hK hP2 hD2 hS2 hA rfl f_MM (Nat.le_of_ble_eq_true rfl) (Nat.le_of_ble_eq_true rfl) d_law_8 (fun y0 H3 hP3 hD3 hS3 => ?_)
  clear hP2 hD2 hS2
  refine lv_dup hx hb d_law_11 rfl ?_
  refine zInit hP3 hD3 hS3 hA (va_runI (As := []) (rest := [.ref y0]) ⟨hx, hb, hml, hown, hg⟩ (c_MM_init l D tA y0 H3.size) (cwI 0 hg (zGood k8_238 rfl) rfl rfl rfl (hg _ k1_14) (hg _ k8_236) (hg _ k8_237) rfl (by decide +kernel) ⟨(Nat.le_of_ble_eq_true rfl), (Nat.le_of_ble_eq_true rfl)⟩) (zPreI hh hK hP3 hD3) rfl rfl hl.1 rfl (lv_room (Nat.le_of_ble_eq_true rfl)) d_law_12 ⟨(Nat.le_of_ble_eq_true rfl), (Nat.le_of_ble_eq_true rfl)⟩) (fun v H4 locs4 _ hP4 hD4 hS4 => ?_)
  clear hP3 hD3 hS3
  refine lv_astore_n (lv' := [(2, .ref y0), (1, .ref x0), (0, .ref b)]) hx hb d_law_15 rfl hl (by decide) rfl (fun ls hl => ?_)
  refine lv_iconst (v := 1) hx hb d_law_16 (by decide) ?_
  refine zNewa (atype := .long) (ty := .long) (a0 := (1, .inr (.inl (fun _ => 0)))) (N' := 1) hx hb rfl (hg _ k3_35) hK hP4 hD4 hS4 hA 3 rfl (fun _ h => by cases h) (fun _ => rfl) (by decide) (by decide) (by decide) (Nat.le_of_ble_eq_true rfl) (Nat.le_of_ble_eq_true rfl) d_law_17 (fun oa H5 hP5 hD5 hS5 => ?_)
  clear hP4 hD4 hS4
  refine lv_astore_n (lv' := [(3, .ref oa), (2, .ref y0), (1, .ref x0), (0, .ref b)]) hx hb d_law_19 rfl hl (by decide) rfl (fun ls hl => ?_)
  refine lv_iconst (v := 0) hx hb d_law_20 (by decide) ?_
  refine lv_istore (lv' := [(4, .int 0), (3, .ref oa), (2, .ref y0), (1, .ref x0), (0, .ref b)]) hx hb d_law_21 hl (by decide) rfl (fun ls hl => ?_)
  rw [List.nil_append] at hP5 hD5
  refine W.cs (cells' := 21429) (slots' := 651797) rfl rfl ?_
  refine lv_iload hx hb d_law_23 (lv_at hl 0 rfl) ?_
  refine lv_aload_n hx hb d_law_25 rfl (lv_at hl 4 rfl) ?_
  refine va_slen hx hb hX hbl (Nat.not_le.mpr hbl) hS5 d_law_26 ?_
  refine lv_bipush (v := 6) hx hb d_law_27 (by decide) ?_
  refine lv_isub hx hb d_law_29 ?_
  by_cases h6 : L = 6
  · subst h6
    refine lv_icmp_gt (tgt := 1161) hx hb d_law_30 (by decide) (fun c9 => absurd c9 (by decide)) (fun _ => ?_)
    refine law_world u v hP5 hD5 (fun a_q8 a_q19 a_q30 a_q41 a_q52 a_q78 a_q89 a_q104 a_q115 a_q126 a_q137 a_q148 a_q159 a_q173 a_q19_q6 a_q19_q15 a_q19_q24 a_q19_q33 a_q30_q5 a_q30_q16 a_q30_q28 a_q30_q35 a_q30_q5_q8 a_q30_q5_q17 a_q30_q5_q26 a_q30_q5_q35 a_q30_q5_q44 a_q30_q5_q52 a_q30_q5_q60 a_q30_q5_q68 a_q30_q5_q76 a_q30_q16_q7 a_q30_q16_q15 a_q30_q16_q23 a_q30_q16_q31 a_q30_q16_q44 a_q30_q16_q52 a_q30_q16_q60 a_q30_q16_q68 a_q30_q16_q76 a_q52_q8 a_q52_q17 a_q52_q25 a_q52_q33 a_q52_q41 a_q52_q49 a_q52_q57 a_q52_q65 a_q52_q73 a_q52_q81 a_q52_q89 a_q52_q97 a_q52_q106 a_q52_q115 a_q52_q124 a_q78_q8 a_q78_q17 a_q78_q26 a_q78_q35 a_q78_q44 a_q78_q53 a_q78_q62 a_q78_q71 a_q78_q80 a_q78_q86 a_q78_q100 a_q78_q108 a_q78_q116 a_q104_q6 a_q115_q6 a_q137_q6 b_q5 b_q16 b_q27 b_q38 b_q49 b_q60 b_q71 b_q82 b_q98 b_q109 b_q120 b_q131 b_q142 b_q153 b_q167 b_q176 b_q182 b_q195 b_q203 b_q211 b_q219 b_q233 b_q242 b_q251 b_q260 b_q266 b_q277 b_q288 b_q299 b_q310 b_q324 b_q333 b_q342 b_q350 b_q358 b_q366 b_q375 b_q5_q7 b_q16_q7 b_q27_q7 b_q38_q7 b_q49_q7 b_q60_q7 b_q82_q5 b_q82_q16 b_q82_q27 b_q82_q38 b_q82_q49 b_q82_q60 b_q82_q73 b_q82_q81 b_q82_q89 b_q82_q97 b_q82_q105 b_q82_q113 b_q82_q121 b_q82_q129 b_q82_q137 b_q82_q145 b_q82_q153 b_q82_q161 b_q82_q169 b_q82_q178 b_q82_q187 b_q82_q196 b_q82_q205 b_q82_q211 b_q82_q222 b_q82_q233 b_q82_q5_q7 b_q82_q16_q7 b_q82_q27_q7 b_q82_q38_q7 b_q82_q49_q7 b_q82_q60_q7 b_q82_q211_q7 b_q82_q222_q7 b_q82_q233_q7 b_q98_q7 b_q109_q7 b_q120_q7 b_q310_q5 b_q310_q19 b_q310_q28 b_q310_q37 b_q310_q46 b_q310_q55 b_q310_q64 b_q310_q73 b_q310_q82 b_q310_q90 b_q310_q99 b_q310_q109 b_q310_q118 b_q310_q127 b_q310_q136 b_q310_q145 b_q310_q154 b_q310_q163 b_q310_q172 b_q310_q181 b_q310_q190 b_q310_q197 b_q310_q210 b_q310_q223 b_q310_q237 b_q310_q251 b_q310_q268 hP2 hD2 => ?_)
    exact law_body htr hx hb hml hh hg hown hK hA hAn h2 hN hX hbl hP2 hD2 hS5 hl (fun H1 locs1 ls1 c1 s1 hc1 hs1 hS1 hl1 => law_next hx hb hr hlocks hX hbl hc1 hs1 hS1 hl1)
  · have h7 : (0 : Int32) > Int32.ofNat L - 6 := by
      rcases (show L = 0 ∨ L = 1 ∨ L = 2 ∨ L = 3 ∨ L = 4 ∨ L = 5 by omega) with rfl | rfl | rfl | rfl | rfl | rfl <;> decide
    refine lv_icmp_gt (tgt := 1161) hx hb d_law_30 (by decide) (fun _ => ?_) (fun c9 => absurd h7 c9)
    exact law_out hx hb hr hlocks (Nat.le_of_ble_eq_true rfl) (Nat.le_of_ble_eq_true rfl) hS5
set_option maxHeartbeats 4000000 in
theorem lw_walk (l : Launch) (htr : l.stackTraces = false) (b : Addr) (xs : List Int32) : MetFree l x (headSpec (Jvm.Cond.code x code maxLocals ret :: tables_1) room_1) (lw_P b xs) (fun _ _ _ _ _ => True) lw_Q := by
  refine MetFree.of_bodyS (code := code) (maxLocals := maxLocals) (ret := ret) (by decide) ?_ ?_
  · intro args s m h hn
    obtain ⟨meth, c, h1, h2, h3, h4, h5, h6, -, -⟩ := Cond.code_spec hn (atoms_spec (ws := Jvm.Cond.code x code maxLocals ret :: tables_1) h _ List.mem_cons_self)
    exact ⟨meth, c, h1, h2, h3, h4, h5, h6⟩
  · intro p e s m args below meth c s₁ B hml0 hP _
    obtain ⟨rfl, hx, hbd, hgv⟩ := hP
    obtain ⟨scr, harrAt, hlist, hof, hsmall⟩ := hx
    obtain ⟨hcb, hkn, -, -⟩ := State.arrayAt?_spec harrAt
    have hown : s.vm.findClass R_law = some m.cls := findClass_of_methodNamed B.named
    have hts0 : ∀ c ∈ (Jvm.Cond.code x code maxLocals ret :: tables_1), c.before #[Value.ref b] s = true := atoms_spec (ws := Jvm.Cond.code x code maxLocals ret :: tables_1) B.pre
    have hts : ∀ w ∈ lw_tbl, w.before #[Value.ref b] s = true := k2_hts_sels lw_privs (fun w hw => hts0 w (List.mem_cons_of_mem _ hw)) lw_privs_ok
    have hml : c.maxLocals = 7 := B.maxLocals_eq (hts0 _ List.mem_cons_self)
    have X₀ : Stand p l e room_1 s m #[Value.ref b] below meth c s₁ [] 0 0 := Stand.of_body B
    have hh0 : s₁.heap = s.heap := by rw [B.state]; rfl
    have hsz : scr.slots.size = xs.length := by rw [← Array.length_toList, hlist, List.length_map]
    have hval : ∀ j : Nat, j < xs.length → scr.slots[j]? = some (.int (xs.getD j 0)) := fun j hj => by
      rw [← Array.getElem?_toList, hlist]
      simp [hj]
    have hbl : b < s.heap.size := (Array.getElem?_eq_some_iff.mp hcb).1
    have hX : va_X b xs.length (fun j => xs.getD j 0) s s.heap := ⟨scr, hcb, hof, hkn, hsz, hval⟩
    have K : W p l e room_1 s m #[Value.ref b] below meth c s₁.heap [] 0 0 (lw_Z below #[Value.ref b] s) (entryFrame m ([Value.ref b] : List Value).toArray 7) := by
      rw [hh0]
      exact whole_start l htr hbd ⟨B.exec, B.bytes, B.returns, hml, hown, hts, hX, hbl, B.notSynchronized, hgv⟩
    obtain ⟨t, a1, o, b1, b2, b3⟩ := K s₁ rfl X₀
    exact ⟨t, o, a1, b1, b2, b3⟩
theorem lw_pre_spec {args : Array Value} {s : State} (h : (Jvm.Cond.and given_1 narrow_1).before args s = true) (hr : rest_1_c.before args s = true) : ∃ (b : Addr) (xs : List Int32), lw_P b xs args s := by
  have hs := flat_of_before _ h
  have hq := flat_of_before _ hr
  have hc : (Cond.count 1).before args s = true := hs _ (by decide +kernel)
  have harr : (Cond.arrayOf (.arg 0) .int).before args s = true := hs _ (by decide +kernel)
  have hle : (Cond.le (.length (.arg 0)) (.int 6)).before args s = true := hs _ (by decide +kernel)
  have hlen : (Cond.isInt (.length (.arg 0))).before args s = true := hq _ (by decide +kernel)
  have hall : (Cond.all (.arg 0) (.isInt (.elem (.arg 0) (.index 0)))).before args s = true := hq _ (by decide +kernel)
  obtain ⟨b, xs, hb, hx⟩ := State.ints_of_pre rfl harr hlen hall
  have hsm : xs.length < 2 ^ 31 := hx.choose_spec.2.2.2
  have hev : (Term.length (.arg 0)).eval args s none [] s = some (.int xs.length.toInt32) := hx.length_eval hb
  have hv := Cond.le_ints hev (show (Term.int 6).eval args s none [] s = some (.int 6) from rfl)
  have hd : xs.length.toInt32 ≤ 6 := by
    simpa [Cond.before, Cond.holds, hv] using hle
  have hN : xs.length ≤ 6 := (Int32.ofNat_le_ofNat hsm (by decide)).mp (show Int32.ofNat xs.length ≤ Int32.ofNat 6 from hd)
  exact ⟨b, xs, Cond.one_arg hc (show args[0]? = some (.ref b) from hb), hx, hN, h⟩
theorem lw_comes (l : Launch) (htr : l.stackTraces = false) : Comes l x (Jvm.Cond.code x code maxLocals ret :: tables_1) room_1 (fun tb e args s => Calls_1 tb e args s ∧ rest_1 tb e args s ∧ Pre_1 tb e args s)
    (fun _ _ args s o t => lw_Q args s o t) := by
  intro p e ha hc hk s m args below hf hfit hheap happ hpre
  obtain ⟨b, xs, hP⟩ := lw_pre_spec hpre.2.2 hpre.2.1
  obtain ⟨k, o, h1, h2, h3, hQ⟩ := lw_walk l htr b xs p e ha hc hk s m args below hf ((Spec.applies_iff_loose hf).mp happ).1 hP trivial
  exact ⟨k, o, h1, h2, h3, hQ⟩
theorem lw_frame {s t : State} {o : Outcome} {args : Array Value} (h : Framed s o t [] 600002 7302231) :
    Framed s o t (fieldLocs frame_1_writes args s ++ arrayLocs frame_1_arrays args s ++ staticLocs frame_1_statics s) 600002 7302231 := h
theorem lw_limb (L : Cond) (hL : ∀ (args : Array Value) (s t : State), L.after args s (.returned (some (.int 1))) t = true) :
    ArmFor flags0 classFile x code maxLocals ret World_1 tables_1 room_1 Calls_1 rest_1 Pre_1
      (fun tb e a s o t => postC L tb e a s o t ∧ Framed s o t (fieldLocs frame_1_writes a s ++ arrayLocs frame_1_arrays a s ++ staticLocs frame_1_statics s) 600002 7302231) := by
  intro l hfl _ _ p e ha hc hk s m args below hf hfit hheap happ hpre
  obtain ⟨k, o, h1, h2, h3, rfl, hF⟩ := lw_comes l (by unfold Launch.stackTraces; rw [hfl]; decide) p e ha hc hk s m args below hf hfit hheap happ hpre
  exact ⟨k, _, h1, h2, h3, hL args s _, lw_frame hF⟩
theorem i_vc : Claimed_1_1 ∧ Claimed_1_2 := ⟨lw_limb limb_1_1 (fun args s t => by simp [limb_1_1, Cond.after, Cond.holds, Cond.value]), lw_limb limb_1_2 (fun args s t => Cond.after_iff.mpr (by
  first | (rw [show limb_1_2 = Cond.eq .result (.int 1) from rfl, Cond.eq_ints (x := 1) (y := 1) rfl rfl]; simp; done) | (simp [limb_1_2, Cond.value, Term.eval]; done)))⟩
