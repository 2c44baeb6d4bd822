theorem k3_74 : (Jvm.Cond.code ({ cls := "ChanceArena$Residues", name := "<init>", desc := "()V" } : Jvm.MethodName) prog_8_method_1_code (2 : Nat) (Option.none : Option Jvm.ClassFile.FieldType)) ∈ lw_R := zR (zk_3 _ (List.mem_of_getElem? (i := 74) (by decide +kernel))) rfl
theorem k3_75 : (Jvm.Cond.methodLink "ChanceArena$Residues" (3 : Nat) ({ cls := "java/lang/Object", name := "<init>", desc := "()V" } : Jvm.MethodName)) ∈ lw_R := zR (zk_3 _ (List.mem_of_getElem? (i := 75) (by decide +kernel))) rfl
theorem k3_76 : (Jvm.Cond.classLink "ChanceArena$Residues" (15 : Nat) "ChanceArena$Natural") ∈ lw_R := zR (zk_3 _ (List.mem_of_getElem? (i := 76) (by decide +kernel))) rfl
theorem k3_77 : (Jvm.Cond.arrayOver (Jvm.ClassFile.FieldType.object "ChanceArena$Natural")) ∈ lw_R := zR (zk_3 _ (List.mem_of_getElem? (i := 77) (by decide +kernel))) rfl
theorem k3_78 : (Jvm.Cond.methodLinkNest "ChanceArena$Residues" (33 : Nat) ({ cls := "ChanceArena$Natural", name := "<init>", desc := "()V" } : Jvm.MethodName) "ChanceArena") ∈ lw_R := zR (zk_3 _ (List.mem_of_getElem? (i := 78) (by decide +kernel))) rfl
theorem k3_79 : (Jvm.Cond.fieldLink "ChanceArena$Residues" (11 : Nat) "ChanceArena$Residues" "entries" "[I") ∈ lw_R := zR (zk_3 _ (List.mem_of_getElem? (i := 79) (by decide +kernel))) rfl
theorem k3_81 : (Jvm.Cond.fieldLink "ChanceArena$Residues" (17 : Nat) "ChanceArena$Residues" "results" "[LChanceArena$Natural;") ∈ lw_R := zR (zk_3 _ (List.mem_of_getElem? (i := 81) (by decide +kernel))) rfl
theorem k3_83 : (Jvm.Cond.fieldLink "ChanceArena$Residues" (21 : Nat) "ChanceArena$Residues" "work" "[I") ∈ lw_R := zR (zk_3 _ (List.mem_of_getElem? (i := 83) (by decide +kernel))) rfl
theorem k3_84 : (Jvm.Cond.fieldLink "ChanceArena$Residues" (24 : Nat) "ChanceArena$Residues" "inverses" "[I") ∈ lw_R := zR (zk_3 _ (List.mem_of_getElem? (i := 84) (by decide +kernel))) rfl
theorem k3_85 : (Jvm.Cond.fieldLink "ChanceArena$Residues" (27 : Nat) "ChanceArena$Residues" "columns" "[I") ∈ lw_R := zR (zk_3 _ (List.mem_of_getElem? (i := 85) (by decide +kernel))) rfl
theorem k3_86 : (Jvm.Cond.fieldLink "ChanceArena$Residues" (30 : Nat) "ChanceArena$Residues" "residues" "[I") ∈ lw_R := zR (zk_3 _ (List.mem_of_getElem? (i := 86) (by decide +kernel))) rfl
theorem k3_87 : (Jvm.Cond.fieldLink "ChanceArena$Residues" (34 : Nat) "ChanceArena$Residues" "modulus" "LChanceArena$Natural;") ∈ lw_R := zR (zk_3 _ (List.mem_of_getElem? (i := 87) (by decide +kernel))) rfl
theorem d_Re_init_68 : decode prog_8_method_1_code 68 = .ok (.iload_n 1, 1) := dc9_27 (by decide +kernel)
theorem d_Re_init_69 : decode prog_8_method_1_code 69 = .ok (.bipush 41, 2) := dc9_16 (by decide +kernel)
theorem d_Re_init_71 : decode prog_8_method_1_code 71 = .ok (.if_icmp .ge 22, 3) := dc9_162 (by decide +kernel)
theorem d_Re_init_74 : decode prog_8_method_1_code 74 = .ok (.aload_n 0, 1) := dc9_42 (by decide +kernel)
theorem d_Re_init_75 : decode prog_8_method_1_code 75 = .ok (.getfield 17, 3) := dc9_180 (by decide +kernel)
theorem d_Re_init_78 : decode prog_8_method_1_code 78 = .ok (.iload_n 1, 1) := dc9_27 (by decide +kernel)
theorem d_Re_init_79 : decode prog_8_method_1_code 79 = .ok (.new 15, 3) := dc9_187 (by decide +kernel)
theorem d_Re_init_82 : decode prog_8_method_1_code 82 = .ok (.dup, 1) := dc9_89 (by decide +kernel)
theorem d_Re_init_83 : decode prog_8_method_1_code 83 = .ok (.invokespecial 33, 3) := dc9_183 (by decide +kernel)
theorem d_Re_init_86 : decode prog_8_method_1_code 86 = .ok (.aastore, 1) := dc9_83 (by decide +kernel)
theorem d_Re_init_87 : decode prog_8_method_1_code 87 = .ok (.iinc 1 1, 3) := by decide +kernel
theorem d_Re_init_90 : decode prog_8_method_1_code 90 = .ok (.goto (-22), 3) := dc9_167 (by decide +kernel)
theorem d_Re_init_0 : decode prog_8_method_1_code 0 = .ok (.aload_n 0, 1) := dc9_42 (by decide +kernel)
theorem d_Re_init_1 : decode prog_8_method_1_code 1 = .ok (.invokespecial 3, 3) := dc9_183 (by decide +kernel)
theorem d_Re_init_4 : decode prog_8_method_1_code 4 = .ok (.aload_n 0, 1) := dc9_42 (by decide +kernel)
theorem d_Re_init_5 : decode prog_8_method_1_code 5 = .ok (.sipush 1640, 3) := dc9_17 (by decide +kernel)
theorem d_Re_init_8 : decode prog_8_method_1_code 8 = .ok (.newarray .int, 2) := by decide +kernel
theorem d_Re_init_10 : decode prog_8_method_1_code 10 = .ok (.putfield 11, 3) := dc9_181 (by decide +kernel)
theorem d_Re_init_13 : decode prog_8_method_1_code 13 = .ok (.aload_n 0, 1) := dc9_42 (by decide +kernel)
theorem d_Re_init_14 : decode prog_8_method_1_code 14 = .ok (.bipush 41, 2) := dc9_16 (by decide +kernel)
theorem d_Re_init_16 : decode prog_8_method_1_code 16 = .ok (.anewarray 15, 3) := dc9_189 (by decide +kernel)
theorem d_Re_init_19 : decode prog_8_method_1_code 19 = .ok (.putfield 17, 3) := dc9_181 (by decide +kernel)
theorem d_Re_init_22 : decode prog_8_method_1_code 22 = .ok (.aload_n 0, 1) := dc9_42 (by decide +kernel)
theorem d_Re_init_23 : decode prog_8_method_1_code 23 = .ok (.sipush 1640, 3) := dc9_17 (by decide +kernel)
theorem d_Re_init_26 : decode prog_8_method_1_code 26 = .ok (.newarray .int, 2) := by decide +kernel
theorem d_Re_init_28 : decode prog_8_method_1_code 28 = .ok (.putfield 21, 3) := dc9_181 (by decide +kernel)
theorem d_Re_init_31 : decode prog_8_method_1_code 31 = .ok (.aload_n 0, 1) := dc9_42 (by decide +kernel)
theorem d_Re_init_32 : decode prog_8_method_1_code 32 = .ok (.bipush 40, 2) := dc9_16 (by decide +kernel)
theorem d_Re_init_34 : decode prog_8_method_1_code 34 = .ok (.newarray .int, 2) := by decide +kernel
theorem d_Re_init_36 : decode prog_8_method_1_code 36 = .ok (.putfield 24, 3) := dc9_181 (by decide +kernel)
theorem d_Re_init_39 : decode prog_8_method_1_code 39 = .ok (.aload_n 0, 1) := dc9_42 (by decide +kernel)
theorem d_Re_init_40 : decode prog_8_method_1_code 40 = .ok (.bipush 41, 2) := dc9_16 (by decide +kernel)
theorem d_Re_init_42 : decode prog_8_method_1_code 42 = .ok (.newarray .int, 2) := by decide +kernel
theorem d_Re_init_44 : decode prog_8_method_1_code 44 = .ok (.putfield 27, 3) := dc9_181 (by decide +kernel)
theorem d_Re_init_47 : decode prog_8_method_1_code 47 = .ok (.aload_n 0, 1) := dc9_42 (by decide +kernel)
theorem d_Re_init_48 : decode prog_8_method_1_code 48 = .ok (.bipush 41, 2) := dc9_16 (by decide +kernel)
theorem d_Re_init_50 : decode prog_8_method_1_code 50 = .ok (.newarray .int, 2) := by decide +kernel
theorem d_Re_init_52 : decode prog_8_method_1_code 52 = .ok (.putfield 30, 3) := dc9_181 (by decide +kernel)
theorem d_Re_init_55 : decode prog_8_method_1_code 55 = .ok (.aload_n 0, 1) := dc9_42 (by decide +kernel)
theorem d_Re_init_56 : decode prog_8_method_1_code 56 = .ok (.new 15, 3) := dc9_187 (by decide +kernel)
theorem d_Re_init_59 : decode prog_8_method_1_code 59 = .ok (.dup, 1) := dc9_89 (by decide +kernel)
theorem d_Re_init_60 : decode prog_8_method_1_code 60 = .ok (.invokespecial 33, 3) := dc9_183 (by decide +kernel)
theorem d_Re_init_63 : decode prog_8_method_1_code 63 = .ok (.putfield 34, 3) := dc9_181 (by decide +kernel)
theorem d_Re_init_66 : decode prog_8_method_1_code 66 = .ok (.iconst 0, 1) := dc9_3 (by decide +kernel)
theorem d_Re_init_67 : decode prog_8_method_1_code 67 = .ok (.istore_n 1, 1) := dc9_60 (by decide +kernel)
theorem d_Re_init_93 : decode prog_8_method_1_code 93 = .ok (.return_, 1) := dc9_177 (by decide +kernel)
/-- naturals in a row -/
def n_pool (tA : Nat → ClassId) (r : Nat → Nat × S_Na) : Nat → va_W
  | 0 => []
  | k + 1 => n_pool tA r k ++ w_Na tA (r k).1 (r k).2
theorem n_pool_le {tA : Nat → ClassId} {r : Nat → Nat × S_Na} {j : Nat} {v : Nat × S_Na} : ∀ k, k ≤ j → n_pool tA (va_up r j v) k = n_pool tA r k
  | 0, _ => rfl
  | k + 1, h => by
    show n_pool tA (va_up r j v) k ++ w_Na tA (va_up r j v k).1 (va_up r j v k).2 = n_pool tA r k ++ w_Na tA (r k).1 (r k).2
    have e9 : va_up r j v k = r k := by unfold va_up; rw [if_neg (by omega)]
    rw [n_pool_le k (by omega), e9]
theorem n_pool_up {tA : Nat → ClassId} {r : Nat → Nat × S_Na} {k : Nat} {v : Nat × S_Na} : n_pool tA (va_up r k v) (k + 1) = n_pool tA r k ++ w_Na tA v.1 v.2 := by
  show n_pool tA (va_up r k v) k ++ w_Na tA (va_up r k v k).1 (va_up r k v k).2 = _
  have e9 : va_up r k v k = v := by unfold va_up; rw [if_pos rfl]
  rw [n_pool_le k (Nat.le_refl k), e9]
theorem zAt {ws t : va_W} {y : Nat × va_E} : (ws ++ (y :: t))[ws.length]? = some y := by simp
theorem n_row {r : Nat → Nat × S_Na} {k : Nat} {q : Nat} {u : S_Na} : va_up (fun i => if i < k then some (r i).1 else none) k (some q) = fun i => if i < k + 1 then some ((va_up r k (q, u)) i).1 else none := by
  funext i
  simp only [va_up]
  by_cases h : i = k
  · subst h; simp
  · have h2 : (i < k + 1) = (i < k) := by apply propext; omega
    simp [h, h2]
set_option maxHeartbeats 4000000 in
set_option maxRecDepth 100000 in
theorem Re_loop {p : Program} {l : Launch} {e : Env} {s : State} {m : MethodId} {below : List Frame} {meth : Method} {c : Code} {D : va_G} {tA : Nat → ClassId} {A : Nat → Prop} {h0 ra : Nat} {fs : List Value} {T0 : va_W} {Q : State → Prop} (hx : p.tables.exec = Jvm.exec) (hb : c.code = prog_8_method_1_code) (hml : c.maxLocals = 2) (hh : zH s) (hg : ∀ w ∈ lw_R, w.before #[Value.ref h0] s = true) (hown : s.vm.findClass "ChanceArena$Residues" = some m.cls) (hK : va_K D vwCl (zT tA) s) (hA : ∀ q, s.heap.size ≤ q → A q) (hf1 : fs[1]? = some (.ref ra))
    (kend : ∀ (r : Nat → Nat × S_Na) (H : Heap) (locs : List Loc) (ls : Array Slot), va_P D vwCl ((h0, .inr (11, fs)) :: (ra, .inl (tA 4, 41, .inr (.inr (.inr (.inr (fun i => if i < 41 then some (r i).1 else none)))))) :: (T0 ++ n_pool tA r 41)) H → va_D A ((h0, .inr (11, fs)) :: (ra, .inl (tA 4, 41, .inr (.inr (.inr (.inr (fun i => if i < 41 then some (r i).1 else none)))))) :: (T0 ++ n_pool tA r 41)) → va_S A s.heap H locs → lv_has ls 2 [(1, .int (nI 41)), (0, .ref h0)] → W p l e { frames := 2, cells := 90, slots := 3695, locals := 32 } s m #[Value.ref h0] below meth c H locs (8 + 2 * 41) (3449 + 6 * 41) Q (F0 m 93 ls [])) :
    ∀ (n k : Nat), k + n = 41 → ∀ (r : Nat → Nat × S_Na) (H : Heap) (locs : List Loc) (ls : Array Slot), va_P D vwCl ((h0, .inr (11, fs)) :: (ra, .inl (tA 4, 41, .inr (.inr (.inr (.inr (fun i => if i < k then some (r i).1 else none)))))) :: (T0 ++ n_pool tA r k)) H → va_D A ((h0, .inr (11, fs)) :: (ra, .inl (tA 4, 41, .inr (.inr (.inr (.inr (fun i => if i < k then some (r i).1 else none)))))) :: (T0 ++ n_pool tA r k)) → va_S A s.heap H locs → lv_has ls 2 [(1, .int (nI k)), (0, .ref h0)] → W p l e { frames := 2, cells := 90, slots := 3695, locals := 32 } s m #[Value.ref h0] below meth c H locs (8 + 2 * k) (3449 + 6 * k) Q (F0 m 68 ls []) := by
  intro n
  induction n with
  | zero =>
    intro k hk r H locs ls hP hD hS hl
    have hk : k = 41 := hk
    subst hk
    refine lv_iload_n hx hb d_Re_init_68 rfl (lv_at hl 0 rfl) ?_
    refine lv_bipush (v := 41) hx hb d_Re_init_69 (by decide) ?_
    refine lv_icmp_ge (tgt := 93) hx hb d_Re_init_71 (by decide) (fun c9 => ?_) (fun c9 => ?_)
    · exact kend r H locs ls hP hD hS hl
    · exact absurd (by decide) c9
  | succ n ih =>
    intro k hk r H locs ls hP hD hS hl
    refine lv_iload_n hx hb d_Re_init_68 rfl (lv_at hl 0 rfl) ?_
    refine lv_bipush (v := 41) hx hb d_Re_init_69 (by decide) ?_
    refine lv_icmp_ge (tgt := 93) hx hb d_Re_init_71 (by decide) (fun c9 => absurd c9 (nI_ge (a := k) (b := 41) (by omega) (by decide))) (fun c9 => ?_)
    refine lv_aload_n hx hb d_Re_init_74 rfl (lv_at hl 1 rfl) ?_
    refine va_get (D := D) (ci := 11) (v := .ref ra) (C := R_Re) (T := T_Re) (N := 7) hx hb hg i_Re hown hK hP 0 rfl rfl 1 (by decide) (hg _ k3_81) (fun _ h9 => h9) hf1 d_Re_init_75 ?_
    refine lv_iload_n hx hb d_Re_init_78 rfl (lv_at hl 0 rfl) ?_
    refine va_new (ci := 9) (fs := [.null, .int 0]) (C := R_Na) (T := T_Na) (N := 2) hx hb hg i_Na t_Na o_Na hown (hg _ k3_76) (hg _ k2_234) (hg _ k1_10) hK hP hD hS hA rfl f_Na (by show _ ≤ 90; omega) (by show _ ≤ 3695; omega) d_Re_init_79 (fun q H1 hP1 hD1 hS1 => ?_)
    clear hP hD hS
    refine lv_dup hx hb d_Re_init_82 rfl ?_
    refine zInit hP1 hD1 hS1 hA (va_runIN (As := []) (rest := [.ref q, .int (nI k), .ref ra]) ⟨hx, hb, hml, hown, hg⟩ (c_Na_init l D tA q H1.size) ⟨va_cnB 0 hg (zGood k2_237 rfl) rfl rfl rfl (va_Nw.of rfl (hg _ k3_78)) (hg _ k1_10) (by decide +kernel) ⟨(Nat.le_of_ble_eq_true rfl), (Nat.le_of_ble_eq_true rfl)⟩, rfl, hg _ k2_236⟩ (zPreI hh hK hP1 hD1) rfl rfl hl.1 rfl (lv_room (Nat.le_of_ble_eq_true rfl)) d_Re_init_83 ⟨by show _ ≤ 90; omega, by show _ ≤ 3695; omega⟩) (fun u H2 locs2 _ hP2 hD2 hS2 => ?_)
    clear hP1 hD1 hS1
    refine va_astq hx hb hK hP2 hD2 hS2 1 4 _ 9 rfl rfl zAt rfl (vp_in_nI (by omega) (by decide)) d_Re_init_86 (fun H3 locs3 hP3 hD3 hS3 => ?_)
    clear hP2 hD2 hS2
    rw [nI_clamp (by omega)] at hP3 hD3
    replace hP3 : va_P D vwCl ((h0, .inr (11, fs)) :: (ra, .inl (tA 4, 41, .inr (.inr (.inr (.inr (va_up (fun i => if i < k then some (r i).1 else none) k (some q))))))) :: ((T0 ++ n_pool tA r k) ++ w_Na tA q u)) _ := hP3
    replace hD3 : va_D A ((h0, .inr (11, fs)) :: (ra, .inl (tA 4, 41, .inr (.inr (.inr (.inr (va_up (fun i => if i < k then some (r i).1 else none) k (some q))))))) :: ((T0 ++ n_pool tA r k) ++ w_Na tA q u)) := hD3
    rw [n_row (u := u), List.append_assoc, ← n_pool_up (v := (q, u))] at hP3 hD3
    refine lv_iinc (v := nI (k + 1)) (lv' := [(1, .int (nI (k + 1))), (0, .ref h0)]) hx hb d_Re_init_87 hl (k := 0) rfl (show nI k + Int32.ofInt 1 = _ from nI_1 k) (by decide) rfl (fun ls hl => ?_)
    refine lv_goto (tgt := 68) hx hb d_Re_init_90 (by decide) ?_
    refine W.cs (cells' := 8 + 2 * (k + 1)) (slots' := 3449 + 6 * (k + 1)) (by omega) (by omega) ?_
    exact ih (k + 1) (by omega) _ H3 locs3 ls hP3 hD3 hS3 hl
abbrev S_Re : Type := Nat × Nat × Nat × Nat × Nat × Nat × (Nat × S_Na) × (Nat → Nat × S_Na)
def w_Re (tA : Nat → ClassId) (h0 : Nat) (u : S_Re) : va_W := match u with
  | (q8, q16, q26, q34, q42, q50, (q56, u56), r) => (h0, .inr (11, [.ref q8, .ref q16, .ref q26, .ref q34, .ref q42, .ref q50, .ref q56])) :: (q16, .inl (tA 4, 41, .inr (.inr (.inr (.inr (fun i => if i < 41 then some (r i).1 else none)))))) :: (([(q8, .inl (tA 0, 1640, .inl (fun _ => 0))), (q26, .inl (tA 0, 1640, .inl (fun _ => 0))), (q34, .inl (tA 0, 40, .inl (fun _ => 0))), (q42, .inl (tA 0, 41, .inl (fun _ => 0))), (q50, .inl (tA 0, 41, .inl (fun _ => 0)))] ++ w_Na tA q56 u56) ++ n_pool tA r 41)
theorem f_Re : ∀ j, j < 7 → defaultValue (t_Re j) = vp_V [.null, .null, .null, .null, .null, .null, .null] j := by decide +kernel
set_option maxHeartbeats 4000000 in
set_option maxRecDepth 100000 in
theorem c_Re_init (l : Launch) (D : va_G) (tA : Nat → ClassId) (h0 sz : Nat) : zMv l ({ cls := "ChanceArena$Residues", name := "<init>", desc := "()V" } : Jvm.MethodName) (zW (Jvm.Cond.code ({ cls := "ChanceArena$Residues", name := "<init>", desc := "()V" } : Jvm.MethodName) prog_8_method_1_code (2 : Nat) (Option.none : Option Jvm.ClassFile.FieldType))) { frames := 2, cells := 90, slots := 3695, locals := 32 } [.ref h0] D tA [(h0, .inr (11, [.null, .null, .null, .null, .null, .null, .null]))] sz (fun _ : S_Re => True) (w_Re tA h0) 90 3695 := by
  refine zOpen (fun A => va_Qv _ (zPost D A (w_Re tA h0)) A) (lv := [(0, .ref h0)]) (by decide) rfl (Nat.le_of_ble_eq_true rfl) rfl ?_
  intro p e s m below meth c A ls hx hb hr hml hh hg hown hlocks hnm hK hA hP hD0 hAw hS hl
  have hD := zD hD0 hAw
  refine lv_aload_n hx hb d_Re_init_0 rfl (lv_at hl 0 rfl) ?_
  refine W.objInit hx hb hown (hg _ k3_75) (hg _ k1_46) (hg _ k1_47) rfl (by rw [hml]; exact hl.1) rfl d_Re_init_1 (Nat.le_of_ble_eq_true rfl) (Nat.le_of_ble_eq_true rfl) ?_
  refine lv_aload_n hx hb d_Re_init_4 rfl (lv_at hl 0 rfl) ?_
  refine lv_sipush (v := 1640) hx hb d_Re_init_5 (by decide) ?_
  refine zNewa (atype := .int) (ty := .int) (a0 := (1640, .inl (fun _ => 0))) (N' := 1640) hx hb rfl (hg _ k1_82) hK hP hD hS hA 0 rfl (fun _ h => by cases h) (fun _ => rfl) (by decide) (by decide) (by decide) (Nat.le_of_ble_eq_true rfl) (Nat.le_of_ble_eq_true rfl) d_Re_init_8 (fun q8 H1 hP1 hD1 hS1 => ?_)
  clear hP hD hS
  refine zCons (fun T8 e8 hP2 hD2 => ?_) hP1 hD1
  clear hP1 hD1
  refine va_putF (D := D) (ci := 11) (v := .ref q8) (ty := .array .int) (C := R_Re) (T := T_Re) (N := 7) hx hb hg i_Re t_Re o_Re n_Re hown hK hP2 hD2 hS1 0 rfl rfl 0 (by decide) (hg _ k3_79) (fun _ h9 => h9) rfl hnm rfl (by decide +kernel) rfl rfl (Nat.le_of_ble_eq_true rfl) d_Re_init_10 (fun H3 locs3 hP3 hD3 hS3 => ?_)
  clear hP2 hD2 hS1
  replace hP3 : va_P D vwCl ((h0, .inr (11, [.ref q8, .null, .null, .null, .null, .null, .null])) :: T8) _ := hP3
  replace hD3 : va_D A ((h0, .inr (11, [.ref q8, .null, .null, .null, .null, .null, .null])) :: T8) := hD3
  refine lv_aload_n hx hb d_Re_init_13 rfl (lv_at hl 0 rfl) ?_
  refine lv_bipush (v := 41) hx hb d_Re_init_14 (by decide) ?_
  refine zNewq (N' := 41) hx hb hown (hg _ k3_76) (hg _ k3_77) hK hP3 hD3 hS3 hA 4 rfl (by decide) (by decide) (by decide) (Nat.le_of_ble_eq_true rfl) (Nat.le_of_ble_eq_true rfl) d_Re_init_16 (fun q16 H4 hP4 hD4 hS4 => ?_)
  clear hP3 hD3 hS3
  refine zCons (fun T16 e16 hP5 hD5 => ?_) hP4 hD4
  clear hP4 hD4
  refine va_putF (D := D) (ci := 11) (v := .ref q16) (ty := .array (.object "ChanceArena$Natural")) (C := R_Re) (T := T_Re) (N := 7) hx hb hg i_Re t_Re o_Re n_Re hown hK hP5 hD5 hS4 0 rfl rfl 1 (by decide) (hg _ k3_81) (fun _ h9 => h9) rfl hnm rfl (by decide +kernel) rfl rfl (Nat.le_of_ble_eq_true rfl) d_Re_init_19 (fun H6 locs6 hP6 hD6 hS6 => ?_)
  clear hP5 hD5 hS4
  replace hP6 : va_P D vwCl ((h0, .inr (11, [.ref q8, .ref q16, .null, .null, .null, .null, .null])) :: T16) _ := hP6
  replace hD6 : va_D A ((h0, .inr (11, [.ref q8, .ref q16, .null, .null, .null, .null, .null])) :: T16) := hD6
  refine lv_aload_n hx hb d_Re_init_22 rfl (lv_at hl 0 rfl) ?_
  refine lv_sipush (v := 1640) hx hb d_Re_init_23 (by decide) ?_
  refine zNewa (atype := .int) (ty := .int) (a0 := (1640, .inl (fun _ => 0))) (N' := 1640) hx hb rfl (hg _ k1_82) hK hP6 hD6 hS6 hA 0 rfl (fun _ h => by cases h) (fun _ => rfl) (by decide) (by decide) (by decide) (Nat.le_of_ble_eq_true rfl) (Nat.le_of_ble_eq_true rfl) d_Re_init_26 (fun q26 H7 hP7 hD7 hS7 => ?_)
  clear hP6 hD6 hS6
  refine zCons (fun T26 e26 hP8 hD8 => ?_) hP7 hD7
  clear hP7 hD7
  refine va_putF (D := D) (ci := 11) (v := .ref q26) (ty := .array .int) (C := R_Re) (T := T_Re) (N := 7) hx hb hg i_Re t_Re o_Re n_Re hown hK hP8 hD8 hS7 0 rfl rfl 2 (by decide) (hg _ k3_83) (fun _ h9 => h9) rfl hnm rfl (by decide +kernel) rfl rfl (Nat.le_of_ble_eq_true rfl) d_Re_init_28 (fun H9 locs9 hP9 hD9 hS9 => ?_)
  clear hP8 hD8 hS7
  replace hP9 : va_P D vwCl ((h0, .inr (11, [.ref q8, .ref q16, .ref q26, .null, .null, .null, .null])) :: T26) _ := hP9
  replace hD9 : va_D A ((h0, .inr (11, [.ref q8, .ref q16, .ref q26, .null, .null, .null, .null])) :: T26) := hD9
  refine lv_aload_n hx hb d_Re_init_31 rfl (lv_at hl 0 rfl) ?_
  refine lv_bipush (v := 40) hx hb d_Re_init_32 (by decide) ?_
  refine zNewa (atype := .int) (ty := .int) (a0 := (40, .inl (fun _ => 0))) (N' := 40) hx hb rfl (hg _ k1_82) hK hP9 hD9 hS9 hA 0 rfl (fun _ h => by cases h) (fun _ => rfl) (by decide) (by decide) (by decide) (Nat.le_of_ble_eq_true rfl) (Nat.le_of_ble_eq_true rfl) d_Re_init_34 (fun q34 H10 hP10 hD10 hS10 => ?_)
  clear hP9 hD9 hS9
  refine zCons (fun T34 e34 hP11 hD11 => ?_) hP10 hD10
  clear hP10 hD10
  refine va_putF (D := D) (ci := 11) (v := .ref q34) (ty := .array .int) (C := R_Re) (T := T_Re) (N := 7) hx hb hg i_Re t_Re o_Re n_Re hown hK hP11 hD11 hS10 0 rfl rfl 3 (by decide) (hg _ k3_84) (fun _ h9 => h9) rfl hnm rfl (by decide +kernel) rfl rfl (Nat.le_of_ble_eq_true rfl) d_Re_init_36 (fun H12 locs12 hP12 hD12 hS12 => ?_)
  clear hP11 hD11 hS10
  replace hP12 : va_P D vwCl ((h0, .inr (11, [.ref q8, .ref q16, .ref q26, .ref q34, .null, .null, .null])) :: T34) _ := hP12
  replace hD12 : va_D A ((h0, .inr (11, [.ref q8, .ref q16, .ref q26, .ref q34, .null, .null, .null])) :: T34) := hD12
  refine lv_aload_n hx hb d_Re_init_39 rfl (lv_at hl 0 rfl) ?_
  refine lv_bipush (v := 41) hx hb d_Re_init_40 (by decide) ?_
  refine zNewa (atype := .int) (ty := .int) (a0 := (41, .inl (fun _ => 0))) (N' := 41) hx hb rfl (hg _ k1_82) hK hP12 hD12 hS12 hA 0 rfl (fun _ h => by cases h) (fun _ => rfl) (by decide) (by decide) (by decide) (Nat.le_of_ble_eq_true rfl) (Nat.le_of_ble_eq_true rfl) d_Re_init_42 (fun q42 H13 hP13 hD13 hS13 => ?_)
  clear hP12 hD12 hS12
  refine zCons (fun T42 e42 hP14 hD14 => ?_) hP13 hD13
  clear hP13 hD13
  refine va_putF (D := D) (ci := 11) (v := .ref q42) (ty := .array .int) (C := R_Re) (T := T_Re) (N := 7) hx hb hg i_Re t_Re o_Re n_Re hown hK hP14 hD14 hS13 0 rfl rfl 4 (by decide) (hg _ k3_85) (fun _ h9 => h9) rfl hnm rfl (by decide +kernel) rfl rfl (Nat.le_of_ble_eq_true rfl) d_Re_init_44 (fun H15 locs15 hP15 hD15 hS15 => ?_)
  clear hP14 hD14 hS13
  replace hP15 : va_P D vwCl ((h0, .inr (11, [.ref q8, .ref q16, .ref q26, .ref q34, .ref q42, .null, .null])) :: T42) _ := hP15
  replace hD15 : va_D A ((h0, .inr (11, [.ref q8, .ref q16, .ref q26, .ref q34, .ref q42, .null, .null])) :: T42) := hD15
  refine lv_aload_n hx hb d_Re_init_47 rfl (lv_at hl 0 rfl) ?_
  refine lv_bipush (v := 41) hx hb d_Re_init_48 (by decide) ?_
  refine zNewa (atype := .int) (ty := .int) (a0 := (41, .inl (fun _ => 0))) (N' := 41) hx hb rfl (hg _ k1_82) hK hP15 hD15 hS15 hA 0 rfl (fun _ h => by cases h) (fun _ => rfl) (by decide) (by decide) (by decide) (Nat.le_of_ble_eq_true rfl) (Nat.le_of_ble_eq_true rfl) d_Re_init_50 (fun q50 H16 hP16 hD16 hS16 => ?_)
  clear hP15 hD15 hS15
  refine zCons (fun T50 e50 hP17 hD17 => ?_) hP16 hD16
  clear hP16 hD16
  refine va_putF (D := D) (ci := 11) (v := .ref q50) (ty := .array .int) (C := R_Re) (T := T_Re) (N := 7) hx hb hg i_Re t_Re o_Re n_Re hown hK hP17 hD17 hS16 0 rfl rfl 5 (by decide) (hg _ k3_86) (fun _ h9 => h9) rfl hnm rfl (by decide +kernel) rfl rfl (Nat.le_of_ble_eq_true rfl) d_Re_init_52 (fun H18 locs18 hP18 hD18 hS18 => ?_)
  clear hP17 hD17 hS16
  replace hP18 : va_P D vwCl ((h0, .inr (11, [.ref q8, .ref q16, .ref q26, .ref q34, .ref q42, .ref q50, .null])) :: T50) _ := hP18
  replace hD18 : va_D A ((h0, .inr (11, [.ref q8, .ref q16, .ref q26, .ref q34, .ref q42, .ref q50, .null])) :: T50) := hD18
  refine lv_aload_n hx hb d_Re_init_55 rfl (lv_at hl 0 rfl) ?_
  refine va_new (ci := 9) (fs := [.null, .int 0]) (C := R_Na) (T := T_Na) (N := 2) hx hb hg i_Na t_Na o_Na hown (hg _ k3_76) (hg _ k2_234) (hg _ k1_10) hK hP18 hD18 hS18 hA rfl f_Na (Nat.le_of_ble_eq_true rfl) (Nat.le_of_ble_eq_true rfl) d_Re_init_56 (fun q56 H19 hP19 hD19 hS19 => ?_)
  clear hP18 hD18 hS18
  refine lv_dup hx hb d_Re_init_59 rfl ?_
  refine zInit hP19 hD19 hS19 hA (va_runIN (As := []) (rest := [.ref q56, .ref h0]) ⟨hx, hb, hml, hown, hg⟩ (c_Na_init l D tA q56 H19.size) ⟨va_cnB 0 hg (zGood k2_237 rfl) rfl rfl rfl (va_Nw.of rfl (hg _ k3_78)) (hg _ k1_10) (by decide +kernel) ⟨(Nat.le_of_ble_eq_true rfl), (Nat.le_of_ble_eq_true rfl)⟩, rfl, hg _ k2_236⟩ (zPreI hh hK hP19 hD19) rfl rfl hl.1 rfl (lv_room (Nat.le_of_ble_eq_true rfl)) d_Re_init_60 ⟨(Nat.le_of_ble_eq_true rfl), (Nat.le_of_ble_eq_true rfl)⟩) (fun u56 H20 locs20 _ hP20 hD20 hS20 => ?_)
  clear hP19 hD19 hS19
  refine zCons (fun T60 e60 hP21 hD21 => ?_) hP20 hD20
  clear hP20 hD20
  refine va_putF (D := D) (ci := 11) (v := .ref q56) (ty := .object "ChanceArena$Natural") (C := R_Re) (T := T_Re) (N := 7) hx hb hg i_Re t_Re o_Re n_Re hown hK hP21 hD21 hS20 0 rfl rfl 6 (by decide) (hg _ k3_87) (fun _ h9 => h9) rfl hnm rfl (by decide +kernel) rfl rfl (Nat.le_of_ble_eq_true rfl) d_Re_init_63 (fun H22 locs22 hP22 hD22 hS22 => ?_)
  clear hP21 hD21 hS20
  replace hP22 : va_P D vwCl ((h0, .inr (11, [.ref q8, .ref q16, .ref q26, .ref q34, .ref q42, .ref q50, .ref q56])) :: T60) _ := hP22
  replace hD22 : va_D A ((h0, .inr (11, [.ref q8, .ref q16, .ref q26, .ref q34, .ref q42, .ref q50, .ref q56])) :: T60) := hD22
  rw [e60, e50, e42, e34, e26, e16, e8] at hP22 hD22
  replace hP22 := hP22.sub (ws' := [(h0, .inr (11, [.ref q8, .ref q16, .ref q26, .ref q34, .ref q42, .ref q50, .ref q56])), (q16, .inl (tA 4, 41, .inr (.inr (.inr (.inr (fun _ => none)))))), (q8, .inl (tA 0, 1640, .inl (fun _ => 0))), (q26, .inl (tA 0, 1640, .inl (fun _ => 0))), (q34, .inl (tA 0, 40, .inl (fun _ => 0))), (q42, .inl (tA 0, 41, .inl (fun _ => 0))), (q50, .inl (tA 0, 41, .inl (fun _ => 0)))] ++ w_Na tA q56 u56) [0, 2, 1, 3, 4, 5, 6, 7, 8] rfl
  replace hD22 := hD22.sub (ws' := [(h0, .inr (11, [.ref q8, .ref q16, .ref q26, .ref q34, .ref q42, .ref q50, .ref q56])), (q16, .inl (tA 4, 41, .inr (.inr (.inr (.inr (fun _ => none)))))), (q8, .inl (tA 0, 1640, .inl (fun _ => 0))), (q26, .inl (tA 0, 1640, .inl (fun _ => 0))), (q34, .inl (tA 0, 40, .inl (fun _ => 0))), (q42, .inl (tA 0, 41, .inl (fun _ => 0))), (q50, .inl (tA 0, 41, .inl (fun _ => 0)))] ++ w_Na tA q56 u56) [0, 2, 1, 3, 4, 5, 6, 7, 8] (by decide) rfl
  refine lv_iconst (v := 0) hx hb d_Re_init_66 (by decide) ?_
  refine lv_istore_n (lv' := [(1, .int (nI 0)), (0, .ref h0)]) hx hb d_Re_init_67 rfl hl (by decide) rfl (fun ls hl => ?_)
  refine W.cs (cells' := 8 + 2 * 0) (slots' := 3449 + 6 * 0) rfl rfl ?_
  refine Re_loop (fs := [.ref q8, .ref q16, .ref q26, .ref q34, .ref q42, .ref q50, .ref q56]) (ra := q16) (T0 := [(q8, .inl (tA 0, 1640, .inl (fun _ => 0))), (q26, .inl (tA 0, 1640, .inl (fun _ => 0))), (q34, .inl (tA 0, 40, .inl (fun _ => 0))), (q42, .inl (tA 0, 41, .inl (fun _ => 0))), (q50, .inl (tA 0, 41, .inl (fun _ => 0)))] ++ w_Na tA q56 u56) hx hb hml hh hg hown hK hA rfl ?_ 41 0 rfl (fun _ => (0, 0)) _ _ _ ?_ ?_ hS22 hl
  · intro r H1 locs1 ls1 hP1 hD1 hS1 hl1
    exact zVret hx hb hr hlocks hP1 hD1 hS1 (q8, q16, q26, q34, q42, q50, (q56, u56), r) trivial rfl d_Re_init_93
  · exact hP22
  · exact hD22
