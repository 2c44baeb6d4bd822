theorem k8_194 : (Jvm.Cond.codeWith ({ cls := "ChanceArenaLaw", name := "within", desc := "(LChanceArena;I[J)I" } : Jvm.MethodName) method_7_code (4 : Nat) (Option.some Jvm.ClassFile.FieldType.int) [((0 : Nat), (9 : Nat), (12 : Nat), (13 : Nat)), ((0 : Nat), (9 : Nat), (15 : Nat), (19 : Nat))]) ∈ lw_R := zR (zk_8 _ (List.mem_of_getElem? (i := 194) (by decide +kernel))) rfl
theorem k8_195 : (Jvm.Cond.methodLink "ChanceArenaLaw" (30 : Nat) ({ cls := "ChanceArena", name := "within", desc := "(I)I" } : Jvm.MethodName)) ∈ lw_R := zR (zk_8 _ (List.mem_of_getElem? (i := 195) (by decide +kernel))) rfl
theorem k8_196 : (Jvm.Cond.instanceMethod ({ cls := "ChanceArena", name := "within", desc := "(I)I" } : Jvm.MethodName)) ∈ lw_R := zR (zk_8 _ (List.mem_of_getElem? (i := 196) (by decide +kernel))) rfl
theorem k8_197 : (Jvm.Cond.selects "ChanceArena" ({ cls := "ChanceArena", name := "within", desc := "(I)I" } : Jvm.MethodName) ({ cls := "ChanceArena", name := "within", desc := "(I)I" } : Jvm.MethodName)) ∈ lw_R := zR (zk_8 _ (List.mem_of_getElem? (i := 197) (by decide +kernel))) rfl
theorem k8_229 : (Jvm.Cond.codeWith ({ cls := "ChanceArenaLaw", name := "judge", desc := "(LChanceArena;I[J)I" } : Jvm.MethodName) method_10_code (4 : Nat) (Option.some Jvm.ClassFile.FieldType.int) [((0 : Nat), (9 : Nat), (12 : Nat), (13 : Nat)), ((0 : Nat), (9 : Nat), (15 : Nat), (19 : Nat))]) ∈ lw_R := zR (zk_8 _ (List.mem_of_getElem? (i := 229) (by decide +kernel))) rfl
theorem k8_230 : (Jvm.Cond.methodLink "ChanceArenaLaw" (40 : Nat) ({ cls := "ChanceArena", name := "judge", desc := "(I)I" } : Jvm.MethodName)) ∈ lw_R := zR (zk_8 _ (List.mem_of_getElem? (i := 230) (by decide +kernel))) rfl
theorem k8_231 : (Jvm.Cond.instanceMethod ({ cls := "ChanceArena", name := "judge", desc := "(I)I" } : Jvm.MethodName)) ∈ lw_R := zR (zk_8 _ (List.mem_of_getElem? (i := 231) (by decide +kernel))) rfl
theorem k8_232 : (Jvm.Cond.selects "ChanceArena" ({ cls := "ChanceArena", name := "judge", desc := "(I)I" } : Jvm.MethodName) ({ cls := "ChanceArena", name := "judge", desc := "(I)I" } : Jvm.MethodName)) ∈ lw_R := zR (zk_8 _ (List.mem_of_getElem? (i := 232) (by decide +kernel))) rfl
theorem d_La_within_12 : decode method_7_code 12 = .ok (.astore_n 3, 1) := dc9_78 (by decide +kernel)
theorem d_La_within_13 : decode method_7_code 13 = .ok (.iconst 1, 1) := dc9_4 (by decide +kernel)
theorem d_La_within_14 : decode method_7_code 14 = .ok (.ireturn, 1) := dc9_172 (by decide +kernel)
theorem d_La_within_15 : decode method_7_code 15 = .ok (.astore_n 3, 1) := dc9_78 (by decide +kernel)
theorem d_La_within_16 : decode method_7_code 16 = .ok (.iconst 2, 1) := dc9_5 (by decide +kernel)
theorem d_La_within_17 : decode method_7_code 17 = .ok (.ireturn, 1) := dc9_172 (by decide +kernel)
theorem d_La_within_0 : decode method_7_code 0 = .ok (.aload_n 2, 1) := dc9_44 (by decide +kernel)
theorem d_La_within_1 : decode method_7_code 1 = .ok (.iconst 0, 1) := dc9_3 (by decide +kernel)
theorem d_La_within_2 : decode method_7_code 2 = .ok (.aload_n 0, 1) := dc9_42 (by decide +kernel)
theorem d_La_within_3 : decode method_7_code 3 = .ok (.iload_n 1, 1) := dc9_27 (by decide +kernel)
theorem d_La_within_4 : decode method_7_code 4 = .ok (.invokevirtual 30, 3) := dc9_182 (by decide +kernel)
theorem d_La_judge_12 : decode method_10_code 12 = .ok (.astore_n 3, 1) := dc9_78 (by decide +kernel)
theorem d_La_judge_13 : decode method_10_code 13 = .ok (.iconst 1, 1) := dc9_4 (by decide +kernel)
theorem d_La_judge_14 : decode method_10_code 14 = .ok (.ireturn, 1) := dc9_172 (by decide +kernel)
theorem d_La_judge_15 : decode method_10_code 15 = .ok (.astore_n 3, 1) := dc9_78 (by decide +kernel)
theorem d_La_judge_16 : decode method_10_code 16 = .ok (.iconst 2, 1) := dc9_5 (by decide +kernel)
theorem d_La_judge_17 : decode method_10_code 17 = .ok (.ireturn, 1) := dc9_172 (by decide +kernel)
theorem d_La_judge_0 : decode method_10_code 0 = .ok (.aload_n 2, 1) := dc9_44 (by decide +kernel)
theorem d_La_judge_1 : decode method_10_code 1 = .ok (.iconst 0, 1) := dc9_3 (by decide +kernel)
theorem d_La_judge_2 : decode method_10_code 2 = .ok (.aload_n 0, 1) := dc9_42 (by decide +kernel)
theorem d_La_judge_3 : decode method_10_code 3 = .ok (.iload_n 1, 1) := dc9_27 (by decide +kernel)
theorem d_La_judge_4 : decode method_10_code 4 = .ok (.invokevirtual 40, 3) := dc9_182 (by decide +kernel)
theorem zOpenWN {l : Launch} {y : MethodName} {ws ws' : List Cond} {rm : Room} {av : List Value} {D : va_G} {tA : Nat → ClassId} {W0 : va_W} {sz lim : Nat} {post : Int32 → Prop} {cc : ByteArray} {maxL : Nat} {ret : Option FieldType} {hs : List (Nat × Nat × Nat × Nat)} {lv : List (Nat × Value)} {N : State → Prop}
    (hy : plainName y.cls = true) (hw : ws = Cond.codeWith y cc maxL ret hs :: ws') (hlen : (lg_sl av).length ≤ maxL) (hlv : lv_args 0 av = lv)
    (body : ∀ (p : Program) (e : Env) (s : State) (m : MethodId) (below : List Frame) (meth : Method) (c : Code) (A : Nat → Prop) (ls : Array Slot), p.tables.exec = Jvm.exec → c.code = cc → meth.sig.returnType = ret → c.maxLocals = maxL → c.exceptionTable.toList = tableOf hs → zH s → (∀ w ∈ lw_R, w.before av.toArray s = true) → s.vm.findClass y.cls = some m.cls → meth.locks = false → va_K D vwCl (zT tA) s → (∀ q, s.heap.size ≤ q → A q) → va_P D vwCl W0 s.heap → va_D (fun _ => True) W0 → zS2 lim s s.heap → N s → va_S A s.heap s.heap [] → lv_has ls maxL lv →
      W p l e rm s m av.toArray below meth c s.heap [] 0 0 (MQ below (va_Qi (fun r (_ : Unit) => post r) (fun _ _ => True) A) av.toArray s 1 6 A) (F0 m 0 ls [])) :
    Met l y ws rm (va_Pc av (fun U => zPreX D tA W0 sz lim U ∧ N U)) (va_Qi (fun r (_ : Unit) => post r) (fun _ _ => True) (va_A [] sz)) 1 6 (va_A [] sz) := by
  refine va_MetW (cc := cc) (maxL := maxL) (ret := ret) (hh := hs) hy hw ?_
  intro p e s m args below meth c s₁ B hml hv
  obtain ⟨rfl, ⟨⟨hsz, hP, hK, hD0, hh⟩, h2⟩, hN⟩ := hv
  subst hsz
  have hl := lv_entry av (n := maxL) hlen
  rw [lg_entry_eq]
  generalize (lg_sl av ++ List.replicate (maxL - (lg_sl av).length) Slot.unset).toArray = ls at hl ⊢
  rw [hlv] at hl
  have ht : c.exceptionTable.toList = tableOf hs := by
    obtain ⟨m9, meth9, c9, hn9, h1, h2, -, -, h6, -⟩ := Cond.codeWith_spec (atoms_spec (ws := ws) B.pre _ (by rw [hw]; exact List.mem_cons_self))
    cases Option.some.inj (hn9.symm.trans B.named)
    cases Option.some.inj (h1.symm.trans B.method)
    cases Option.some.inj (h2.symm.trans (Stand.of_body B).code)
    rw [← h6, table_eq]
  exact body p e s m below meth c _ ls B.exec B.bytes B.returns hml ht hh (hh.use _) (findClass_of_methodNamed B.named) B.notSynchronized hK (fun q h => Or.inr h) hP hD0 h2 hN va_S.rf hl

set_option maxHeartbeats 4000000 in
set_option maxRecDepth 100000 in
theorem h_within_0 (l : Launch) (htr : l.stackTraces = false) (D : va_G) (tA : Nat → ClassId) (sz lim : Nat) (oa : Nat) (h0 g0 : Nat) (fs gs : List Value) (hgm : fs[9]? = some (.ref g0)) (hv : gs[0]? = some (.int 0)) (n : Int32) : Met l ({ cls := "ChanceArenaLaw", name := "within", desc := "(LChanceArena;I[J)I" } : Jvm.MethodName) (zW (Jvm.Cond.codeWith ({ cls := "ChanceArenaLaw", name := "within", desc := "(LChanceArena;I[J)I" } : Jvm.MethodName) method_7_code (4 : Nat) (Option.some Jvm.ClassFile.FieldType.int) [((0 : Nat), (9 : Nat), (12 : Nat), (13 : Nat)), ((0 : Nat), (9 : Nat), (15 : Nat), (19 : Nat))])) { frames := 7, cells := 1, slots := 6, locals := 120 } (va_Pc [.ref h0, .int n, .ref oa] (fun U => zPreX D tA [(h0, .inr (0, fs)), (g0, .inr (6, gs))] sz lim U ∧ va_Nc "java/lang/IllegalStateException" "java/lang/IllegalArgumentException" U)) (va_Qi (fun r (_ : Unit) => (fun r => r = if n < 0 ∨ ¬ n ≤ 32 then 1 else 2) r) (fun _ _ => True) (va_A [] sz)) 1 6 (va_A [] sz) := by
  refine zOpenWN (N := va_Nc "java/lang/IllegalStateException" "java/lang/IllegalArgumentException") (lv := [(0, .ref h0), (1, .int n), (2, .ref oa)]) (by decide) rfl (Nat.le_of_ble_eq_true rfl) rfl ?_
  intro p e s m below meth c A ls hx hb hr hml ht hh hg hown hlocks hK hA hP hD0 h2 hN hS hl
  refine lv_aload_n hx hb d_La_within_0 rfl (lv_at hl 2 rfl) ?_
  refine lv_iconst (v := 0) hx hb d_La_within_1 (by decide) ?_
  refine lv_aload_n hx hb d_La_within_2 rfl (lv_at hl 0 rfl) ?_
  refine lv_iload_n hx hb d_La_within_3 rfl (lv_at hl 1 rfl) ?_
  refine zCallX (cells := 0) (slots := 0) (As := [.int n]) (rest := [.int 0, .ref oa]) ⟨hx, hb, hml, hown, hg⟩ (c_CA_within_0 l htr D tA _ lim h0 g0 fs gs hgm hv n) (zV 1 hg k8_195 k8_196 k8_197 k1_1 k8_198 rfl rfl (by decide +kernel) ⟨(Nat.le_of_ble_eq_true rfl), (Nat.le_of_ble_eq_true rfl)⟩) (zPreVX hh hK h2 hP hD0 [0, 1] (by decide) rfl (ci := 0) rfl 0 rfl) rfl hl.1 (lv_room (Nat.le_of_ble_eq_true rfl)) d_La_within_4 ⟨(Nat.le_of_ble_eq_true rfl), (Nat.le_of_ble_eq_true rfl)⟩ hS (fun E9 a9 ce9 H locs hE9 hc9 hv9 hf9 hS T9 hT9 X9 => ?_)
  by_cases hcnd : n < 0 ∨ ¬ n ≤ 32
  · rw [if_pos hcnd] at hE9
    subst hE9
    refine xCatch1 hown ⟨0, 9, 12, 13⟩ [⟨0, 9, 15, 19⟩] (by rw [ht]; rfl) (by decide) (by decide) (hg _ k7_187) (hg _ k6_20) hc9 hv9 hf9 ?_ hT9 X9
    refine W.eq (g2 := F0 m 12 ls [.ref a9]) rfl ?_
    refine W.cs (cells' := 1) (slots' := 6) rfl rfl ?_
    refine lv_astore_n (lv' := [(3, .ref a9), (0, .ref h0), (1, .int n), (2, .ref oa)]) hx hb d_La_within_12 rfl hl (by decide) rfl (fun ls hl => ?_)
    refine lv_iconst (v := 1) hx hb d_La_within_13 (by decide) ?_
    exact zPret (post := fun r => r = if n < 0 ∨ ¬ n ≤ 32 then 1 else 2) (v := 1) hx hb hr rfl hlocks hS ((if_pos hcnd).symm) d_La_within_14
  · rw [if_neg hcnd] at hE9
    subst hE9
    refine xCatch2 hown ⟨0, 9, 12, 13⟩ ⟨0, 9, 15, 19⟩ [] (by rw [ht]; rfl) (by decide) (by decide) (by decide) (by decide) (hg _ k7_187) hN (hg _ k7_206) (hg _ k7_213) hc9 hv9 hf9 ?_ hT9 X9
    refine W.eq (g2 := F0 m 15 ls [.ref a9]) rfl ?_
    refine W.cs (cells' := 1) (slots' := 6) rfl rfl ?_
    refine lv_astore_n (lv' := [(3, .ref a9), (0, .ref h0), (1, .int n), (2, .ref oa)]) hx hb d_La_within_15 rfl hl (by decide) rfl (fun ls hl => ?_)
    refine lv_iconst (v := 2) hx hb d_La_within_16 (by decide) ?_
    exact zPret (post := fun r => r = if n < 0 ∨ ¬ n ≤ 32 then 1 else 2) (v := 2) hx hb hr rfl hlocks hS ((if_neg hcnd).symm) d_La_within_17
set_option maxHeartbeats 4000000 in
set_option maxRecDepth 100000 in
theorem h_judge_0 (l : Launch) (htr : l.stackTraces = false) (D : va_G) (tA : Nat → ClassId) (sz lim : Nat) (oa : Nat) (h0 g0 : Nat) (fs gs : List Value) (hgm : fs[9]? = some (.ref g0)) (hv : gs[0]? = some (.int 0)) (n : Int32) : Met l ({ cls := "ChanceArenaLaw", name := "judge", desc := "(LChanceArena;I[J)I" } : Jvm.MethodName) (zW (Jvm.Cond.codeWith ({ cls := "ChanceArenaLaw", name := "judge", desc := "(LChanceArena;I[J)I" } : Jvm.MethodName) method_10_code (4 : Nat) (Option.some Jvm.ClassFile.FieldType.int) [((0 : Nat), (9 : Nat), (12 : Nat), (13 : Nat)), ((0 : Nat), (9 : Nat), (15 : Nat), (19 : Nat))])) { frames := 7, cells := 1, slots := 6, locals := 120 } (va_Pc [.ref h0, .int n, .ref oa] (fun U => zPreX D tA [(h0, .inr (0, fs)), (g0, .inr (6, gs))] sz lim U ∧ va_Nc "java/lang/IllegalStateException" "java/lang/IllegalArgumentException" U)) (va_Qi (fun r (_ : Unit) => (fun r => r = if n = 1 ∨ n = 2 then 2 else 1) r) (fun _ _ => True) (va_A [] sz)) 1 6 (va_A [] sz) := by
  refine zOpenWN (N := va_Nc "java/lang/IllegalStateException" "java/lang/IllegalArgumentException") (lv := [(0, .ref h0), (1, .int n), (2, .ref oa)]) (by decide) rfl (Nat.le_of_ble_eq_true rfl) rfl ?_
  intro p e s m below meth c A ls hx hb hr hml ht hh hg hown hlocks hK hA hP hD0 h2 hN hS hl
  refine lv_aload_n hx hb d_La_judge_0 rfl (lv_at hl 2 rfl) ?_
  refine lv_iconst (v := 0) hx hb d_La_judge_1 (by decide) ?_
  refine lv_aload_n hx hb d_La_judge_2 rfl (lv_at hl 0 rfl) ?_
  refine lv_iload_n hx hb d_La_judge_3 rfl (lv_at hl 1 rfl) ?_
  refine zCallX (cells := 0) (slots := 0) (As := [.int n]) (rest := [.int 0, .ref oa]) ⟨hx, hb, hml, hown, hg⟩ (c_CA_judge_0 l htr D tA _ lim h0 g0 fs gs hgm hv n) (zV 1 hg k8_230 k8_231 k8_232 k1_1 k8_233 rfl rfl (by decide +kernel) ⟨(Nat.le_of_ble_eq_true rfl), (Nat.le_of_ble_eq_true rfl)⟩) (zPreVX hh hK h2 hP hD0 [0, 1] (by decide) rfl (ci := 0) rfl 0 rfl) rfl hl.1 (lv_room (Nat.le_of_ble_eq_true rfl)) d_La_judge_4 ⟨(Nat.le_of_ble_eq_true rfl), (Nat.le_of_ble_eq_true rfl)⟩ hS (fun E9 a9 ce9 H locs hE9 hc9 hv9 hf9 hS T9 hT9 X9 => ?_)
  by_cases hcnd : n = 1 ∨ n = 2
  · rw [if_pos hcnd] at hE9
    subst hE9
    refine xCatch2 hown ⟨0, 9, 12, 13⟩ ⟨0, 9, 15, 19⟩ [] (by rw [ht]; rfl) (by decide) (by decide) (by decide) (by decide) (hg _ k7_187) hN (hg _ k7_206) (hg _ k7_213) hc9 hv9 hf9 ?_ hT9 X9
    refine W.eq (g2 := F0 m 15 ls [.ref a9]) rfl ?_
    refine W.cs (cells' := 1) (slots' := 6) rfl rfl ?_
    refine lv_astore_n (lv' := [(3, .ref a9), (0, .ref h0), (1, .int n), (2, .ref oa)]) hx hb d_La_judge_15 rfl hl (by decide) rfl (fun ls hl => ?_)
    refine lv_iconst (v := 2) hx hb d_La_judge_16 (by decide) ?_
    exact zPret (post := fun r => r = if n = 1 ∨ n = 2 then 2 else 1) (v := 2) hx hb hr rfl hlocks hS ((if_pos hcnd).symm) d_La_judge_17
  · rw [if_neg hcnd] at hE9
    subst hE9
    refine xCatch1 hown ⟨0, 9, 12, 13⟩ [⟨0, 9, 15, 19⟩] (by rw [ht]; rfl) (by decide) (by decide) (hg _ k7_187) (hg _ k6_20) hc9 hv9 hf9 ?_ hT9 X9
    refine W.eq (g2 := F0 m 12 ls [.ref a9]) rfl ?_
    refine W.cs (cells' := 1) (slots' := 6) rfl rfl ?_
    refine lv_astore_n (lv' := [(3, .ref a9), (0, .ref h0), (1, .int n), (2, .ref oa)]) hx hb d_La_judge_12 rfl hl (by decide) rfl (fun ls hl => ?_)
    refine lv_iconst (v := 1) hx hb d_La_judge_13 (by decide) ?_
    exact zPret (post := fun r => r = if n = 1 ∨ n = 2 then 2 else 1) (v := 1) hx hb hr rfl hlocks hS ((if_neg hcnd).symm) d_La_judge_14
