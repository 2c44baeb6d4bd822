section
/-! Strings: old cells, only read; what the class and the reference ask of them. -/
theorem kt_lenW : (Jvm.Cond.methodLink "ChanceArena$Words" (102 : Nat) ({ cls := "java/lang/String", name := "length", desc := "()I" } : Jvm.MethodName)) ∈ lw_R := zR (zk_4 _ (List.mem_of_getElem? (i := 59) rfl)) rfl
theorem kt_lenI : (Jvm.Cond.instanceMethod ({ cls := "java/lang/String", name := "length", desc := "()I" } : Jvm.MethodName)) ∈ lw_R := zR (zk_4 _ (List.mem_of_getElem? (i := 60) rfl)) rfl
theorem kt_lenS : (Jvm.Cond.selects "java/lang/String" ({ cls := "java/lang/String", name := "length", desc := "()I" } : Jvm.MethodName) ({ cls := "java/lang/String", name := "length", desc := "()I" } : Jvm.MethodName)) ∈ lw_R := zR (zk_4 _ (List.mem_of_getElem? (i := 61) rfl)) rfl
theorem kt_lenC : (Jvm.Cond.code ({ cls := "java/lang/String", name := "length", desc := "()I" } : Jvm.MethodName) prog_33_method_54_code (1 : Nat) (Option.some Jvm.ClassFile.FieldType.int)) ∈ lw_R := zR (zk_4 _ (List.mem_of_getElem? (i := 62) rfl)) rfl
theorem kt_codL : (Jvm.Cond.methodLink "java/lang/String" (335 : Nat) ({ cls := "java/lang/String", name := "coder", desc := "()B" } : Jvm.MethodName)) ∈ lw_R := zR (zk_4 _ (List.mem_of_getElem? (i := 63) rfl)) rfl
theorem kt_codI : (Jvm.Cond.instanceMethod ({ cls := "java/lang/String", name := "coder", desc := "()B" } : Jvm.MethodName)) ∈ lw_R := zR (zk_4 _ (List.mem_of_getElem? (i := 64) rfl)) rfl
theorem kt_codS : (Jvm.Cond.selects "java/lang/String" ({ cls := "java/lang/String", name := "coder", desc := "()B" } : Jvm.MethodName) ({ cls := "java/lang/String", name := "coder", desc := "()B" } : Jvm.MethodName)) ∈ lw_R := zR (zk_4 _ (List.mem_of_getElem? (i := 65) rfl)) rfl
theorem kt_codC : (Jvm.Cond.code ({ cls := "java/lang/String", name := "coder", desc := "()B" } : Jvm.MethodName) prog_33_method_152_code (1 : Nat) (Option.some Jvm.ClassFile.FieldType.byte)) ∈ lw_R := zR (zk_4 _ (List.mem_of_getElem? (i := 66) rfl)) rfl
theorem kt_cmp : (Jvm.Cond.fieldLink "java/lang/String" (38 : Nat) "java/lang/String" "COMPACT_STRINGS" "Z") ∈ lw_R := zR (zk_4 _ (List.mem_of_getElem? (i := 67) rfl)) rfl
theorem kt_chaW : (Jvm.Cond.methodLink "ChanceArena$Words" (107 : Nat) ({ cls := "java/lang/String", name := "charAt", desc := "(I)C" } : Jvm.MethodName)) ∈ lw_R := zR (zk_4 _ (List.mem_of_getElem? (i := 69) rfl)) rfl
theorem kt_chaI : (Jvm.Cond.instanceMethod ({ cls := "java/lang/String", name := "charAt", desc := "(I)C" } : Jvm.MethodName)) ∈ lw_R := zR (zk_4 _ (List.mem_of_getElem? (i := 70) rfl)) rfl
theorem kt_chaS : (Jvm.Cond.selects "java/lang/String" ({ cls := "java/lang/String", name := "charAt", desc := "(I)C" } : Jvm.MethodName) ({ cls := "java/lang/String", name := "charAt", desc := "(I)C" } : Jvm.MethodName)) ∈ lw_R := zR (zk_4 _ (List.mem_of_getElem? (i := 71) rfl)) rfl
theorem kt_chaC : (Jvm.Cond.code ({ cls := "java/lang/String", name := "charAt", desc := "(I)C" } : Jvm.MethodName) prog_33_method_56_code (2 : Nat) (Option.some Jvm.ClassFile.FieldType.char)) ∈ lw_R := zR (zk_4 _ (List.mem_of_getElem? (i := 72) rfl)) rfl
theorem kt_latL : (Jvm.Cond.methodLink "java/lang/String" (492 : Nat) ({ cls := "java/lang/String", name := "isLatin1", desc := "()Z" } : Jvm.MethodName)) ∈ lw_R := zR (zk_4 _ (List.mem_of_getElem? (i := 73) rfl)) rfl
theorem kt_latI : (Jvm.Cond.instanceMethod ({ cls := "java/lang/String", name := "isLatin1", desc := "()Z" } : Jvm.MethodName)) ∈ lw_R := zR (zk_4 _ (List.mem_of_getElem? (i := 74) rfl)) rfl
theorem kt_latS : (Jvm.Cond.selects "java/lang/String" ({ cls := "java/lang/String", name := "isLatin1", desc := "()Z" } : Jvm.MethodName) ({ cls := "java/lang/String", name := "isLatin1", desc := "()Z" } : Jvm.MethodName)) ∈ lw_R := zR (zk_4 _ (List.mem_of_getElem? (i := 75) rfl)) rfl
theorem kt_latC : (Jvm.Cond.code ({ cls := "java/lang/String", name := "isLatin1", desc := "()Z" } : Jvm.MethodName) prog_33_method_154_code (1 : Nat) (Option.some Jvm.ClassFile.FieldType.boolean)) ∈ lw_R := zR (zk_4 _ (List.mem_of_getElem? (i := 76) rfl)) rfl
theorem kt_ltcL : (Jvm.Cond.methodLink "java/lang/String" (495 : Nat) ({ cls := "java/lang/StringLatin1", name := "charAt", desc := "([BI)C" } : Jvm.MethodName)) ∈ lw_R := zR (zk_4 _ (List.mem_of_getElem? (i := 77) rfl)) rfl
theorem kt_ltcS : (Jvm.Cond.static ({ cls := "java/lang/StringLatin1", name := "charAt", desc := "([BI)C" } : Jvm.MethodName)) ∈ lw_R := zR (zk_4 _ (List.mem_of_getElem? (i := 78) rfl)) rfl
theorem kt_ltcC : (Jvm.Cond.code ({ cls := "java/lang/StringLatin1", name := "charAt", desc := "([BI)C" } : Jvm.MethodName) prog_35_method_2_code (2 : Nat) (Option.some Jvm.ClassFile.FieldType.char)) ∈ lw_R := zR (zk_4 _ (List.mem_of_getElem? (i := 79) rfl)) rfl
theorem kt_chkL : (Jvm.Cond.methodLink "java/lang/StringLatin1" (9 : Nat) ({ cls := "java/lang/String", name := "checkIndex", desc := "(II)V" } : Jvm.MethodName)) ∈ lw_R := zR (zk_4 _ (List.mem_of_getElem? (i := 80) rfl)) rfl
theorem kt_chkS : (Jvm.Cond.static ({ cls := "java/lang/String", name := "checkIndex", desc := "(II)V" } : Jvm.MethodName)) ∈ lw_R := zR (zk_4 _ (List.mem_of_getElem? (i := 81) rfl)) rfl
theorem kt_chkC : (Jvm.Cond.code ({ cls := "java/lang/String", name := "checkIndex", desc := "(II)V" } : Jvm.MethodName) prog_33_method_155_code (2 : Nat) (Option.none : Option Jvm.ClassFile.FieldType)) ∈ lw_R := zR (zk_4 _ (List.mem_of_getElem? (i := 82) rfl)) rfl
theorem kt_fmt : (Jvm.Cond.fieldLink "java/lang/String" (1053 : Nat) "jdk/internal/util/Preconditions" "SIOOBE_FORMATTER" "Ljava/util/function/BiFunction;") ∈ lw_R := zR (zk_4 _ (List.mem_of_getElem? (i := 83) rfl)) rfl
theorem kt_preL : (Jvm.Cond.methodLink "java/lang/String" (1059 : Nat) ({ cls := "jdk/internal/util/Preconditions", name := "checkIndex", desc := "(IILjava/util/function/BiFunction;)I" } : Jvm.MethodName)) ∈ lw_R := zR (zk_4 _ (List.mem_of_getElem? (i := 85) rfl)) rfl
theorem kt_preS : (Jvm.Cond.static ({ cls := "jdk/internal/util/Preconditions", name := "checkIndex", desc := "(IILjava/util/function/BiFunction;)I" } : Jvm.MethodName)) ∈ lw_R := zR (zk_4 _ (List.mem_of_getElem? (i := 86) rfl)) rfl
theorem kt_preC : (Jvm.Cond.code ({ cls := "jdk/internal/util/Preconditions", name := "checkIndex", desc := "(IILjava/util/function/BiFunction;)I" } : Jvm.MethodName) prog_41_method_11_code (3 : Nat) (Option.some Jvm.ClassFile.FieldType.int)) ∈ lw_R := zR (zk_4 _ (List.mem_of_getElem? (i := 87) rfl)) rfl
theorem kt_lenM : (Jvm.Cond.methodLink "ChanceArenaModel" (166 : Nat) ({ cls := "java/lang/String", name := "length", desc := "()I" } : Jvm.MethodName)) ∈ lw_R := zR (zk_11 _ (List.mem_of_getElem? (i := 47) rfl)) rfl
theorem kt_chaM : (Jvm.Cond.methodLink "ChanceArenaModel" (172 : Nat) ({ cls := "java/lang/String", name := "charAt", desc := "(I)C" } : Jvm.MethodName)) ∈ lw_R := zR (zk_11 _ (List.mem_of_getElem? (i := 48) rfl)) rfl
theorem kt_val : (Jvm.Cond.fieldLink "java/lang/String" (9 : Nat) "java/lang/String" "value" "[B") ∈ lw_R := zR (zk_7 _ (List.mem_of_getElem? (i := 41) rfl)) rfl
theorem kt_cod : (Jvm.Cond.fieldLink "java/lang/String" (15 : Nat) "java/lang/String" "coder" "B") ∈ lw_R := zR (zk_7 _ (List.mem_of_getElem? (i := 42) rfl)) rfl
theorem kt_iS : (Jvm.Cond.initialized "java/lang/String") ∈ lw_R := zR (zk_1 _ (List.mem_of_getElem? (i := 26) rfl)) rfl
theorem kt_iT : (Jvm.Cond.initialized "java/lang/StringLatin1") ∈ lw_R := zR (zk_1 _ (List.mem_of_getElem? (i := 27) rfl)) rfl
theorem kt_iP : (Jvm.Cond.initialized "jdk/internal/util/Preconditions") ∈ lw_R := zR (zk_1 _ (List.mem_of_getElem? (i := 28) rfl)) rfl
def y_JS_length : mY := (({ cls := "java/lang/String", name := "length", desc := "()I" } : Jvm.MethodName), prog_33_method_54_code, 1, (Option.some Jvm.ClassFile.FieldType.int))
def y_JS_coder : mY := (({ cls := "java/lang/String", name := "coder", desc := "()B" } : Jvm.MethodName), prog_33_method_152_code, 1, (Option.some Jvm.ClassFile.FieldType.byte))
def y_JS_charAt : mY := (({ cls := "java/lang/String", name := "charAt", desc := "(I)C" } : Jvm.MethodName), prog_33_method_56_code, 2, (Option.some Jvm.ClassFile.FieldType.char))
def y_JS_isLatin1 : mY := (({ cls := "java/lang/String", name := "isLatin1", desc := "()Z" } : Jvm.MethodName), prog_33_method_154_code, 1, (Option.some Jvm.ClassFile.FieldType.boolean))
def y_JS_checkIndex : mY := (({ cls := "java/lang/String", name := "checkIndex", desc := "(II)V" } : Jvm.MethodName), prog_33_method_155_code, 2, (Option.none : Option Jvm.ClassFile.FieldType))
def y_JT_charAt : mY := (({ cls := "java/lang/StringLatin1", name := "charAt", desc := "([BI)C" } : Jvm.MethodName), prog_35_method_2_code, 2, (Option.some Jvm.ClassFile.FieldType.char))
def y_JP_checkIndex : mY := (({ cls := "jdk/internal/util/Preconditions", name := "checkIndex", desc := "(IILjava/util/function/BiFunction;)I" } : Jvm.MethodName), prog_41_method_11_code, 3, (Option.some Jvm.ClassFile.FieldType.int))
theorem d_JS_coder_0 : decode y_JS_coder.2.1 0 = .ok (.getstatic 38, 3) := dc9_178 (by decide +kernel)
theorem d_JS_coder_3 : decode y_JS_coder.2.1 3 = .ok (.ifCond .eq 10, 3) := dc9_153 (by decide +kernel)
theorem d_JS_coder_6 : decode y_JS_coder.2.1 6 = .ok (.aload_n 0, 1) := dc9_42 (by decide +kernel)
theorem d_JS_coder_7 : decode y_JS_coder.2.1 7 = .ok (.getfield 15, 3) := dc9_180 (by decide +kernel)
theorem d_JS_coder_10 : decode y_JS_coder.2.1 10 = .ok (.goto 4, 3) := dc9_167 (by decide +kernel)
theorem d_JS_coder_14 : decode y_JS_coder.2.1 14 = .ok (.ireturn, 1) := dc9_172 (by decide +kernel)
theorem d_JS_length_0 : decode y_JS_length.2.1 0 = .ok (.aload_n 0, 1) := dc9_42 (by decide +kernel)
theorem d_JS_length_1 : decode y_JS_length.2.1 1 = .ok (.getfield 9, 3) := dc9_180 (by decide +kernel)
theorem d_JS_length_4 : decode y_JS_length.2.1 4 = .ok (.arraylength, 1) := dc9_190 (by decide +kernel)
theorem d_JS_length_5 : decode y_JS_length.2.1 5 = .ok (.aload_n 0, 1) := dc9_42 (by decide +kernel)
theorem d_JS_length_6 : decode y_JS_length.2.1 6 = .ok (.invokevirtual 335, 3) := dc9_182 (by decide +kernel)
theorem d_JS_length_9 : decode y_JS_length.2.1 9 = .ok (.ishr, 1) := dc9_122 (by decide +kernel)
theorem d_JS_length_10 : decode y_JS_length.2.1 10 = .ok (.ireturn, 1) := dc9_172 (by decide +kernel)
theorem d_JS_isLatin1_0 : decode y_JS_isLatin1.2.1 0 = .ok (.getstatic 38, 3) := dc9_178 (by decide +kernel)
theorem d_JS_isLatin1_3 : decode y_JS_isLatin1.2.1 3 = .ok (.ifCond .eq 14, 3) := dc9_153 (by decide +kernel)
theorem d_JS_isLatin1_6 : decode y_JS_isLatin1.2.1 6 = .ok (.aload_n 0, 1) := dc9_42 (by decide +kernel)
theorem d_JS_isLatin1_7 : decode y_JS_isLatin1.2.1 7 = .ok (.getfield 15, 3) := dc9_180 (by decide +kernel)
theorem d_JS_isLatin1_10 : decode y_JS_isLatin1.2.1 10 = .ok (.ifCond .ne 7, 3) := dc9_154 (by decide +kernel)
theorem d_JS_isLatin1_13 : decode y_JS_isLatin1.2.1 13 = .ok (.iconst 1, 1) := dc9_4 (by decide +kernel)
theorem d_JS_isLatin1_14 : decode y_JS_isLatin1.2.1 14 = .ok (.goto 4, 3) := dc9_167 (by decide +kernel)
theorem d_JS_isLatin1_18 : decode y_JS_isLatin1.2.1 18 = .ok (.ireturn, 1) := dc9_172 (by decide +kernel)
theorem d_JS_charAt_0 : decode y_JS_charAt.2.1 0 = .ok (.aload_n 0, 1) := dc9_42 (by decide +kernel)
theorem d_JS_charAt_1 : decode y_JS_charAt.2.1 1 = .ok (.invokevirtual 492, 3) := dc9_182 (by decide +kernel)
theorem d_JS_charAt_4 : decode y_JS_charAt.2.1 4 = .ok (.ifCond .eq 12, 3) := dc9_153 (by decide +kernel)
theorem d_JS_charAt_7 : decode y_JS_charAt.2.1 7 = .ok (.aload_n 0, 1) := dc9_42 (by decide +kernel)
theorem d_JS_charAt_8 : decode y_JS_charAt.2.1 8 = .ok (.getfield 9, 3) := dc9_180 (by decide +kernel)
theorem d_JS_charAt_11 : decode y_JS_charAt.2.1 11 = .ok (.iload_n 1, 1) := dc9_27 (by decide +kernel)
theorem d_JS_charAt_12 : decode y_JS_charAt.2.1 12 = .ok (.invokestatic 495, 3) := dc9_184 (by decide +kernel)
theorem d_JS_charAt_15 : decode y_JS_charAt.2.1 15 = .ok (.ireturn, 1) := dc9_172 (by decide +kernel)
theorem d_JT_charAt_0 : decode y_JT_charAt.2.1 0 = .ok (.iload_n 1, 1) := dc9_27 (by decide +kernel)
theorem d_JT_charAt_1 : decode y_JT_charAt.2.1 1 = .ok (.aload_n 0, 1) := dc9_42 (by decide +kernel)
theorem d_JT_charAt_2 : decode y_JT_charAt.2.1 2 = .ok (.arraylength, 1) := dc9_190 (by decide +kernel)
theorem d_JT_charAt_3 : decode y_JT_charAt.2.1 3 = .ok (.invokestatic 9, 3) := dc9_184 (by decide +kernel)
theorem d_JT_charAt_6 : decode y_JT_charAt.2.1 6 = .ok (.aload_n 0, 1) := dc9_42 (by decide +kernel)
theorem d_JT_charAt_7 : decode y_JT_charAt.2.1 7 = .ok (.iload_n 1, 1) := dc9_27 (by decide +kernel)
theorem d_JT_charAt_8 : decode y_JT_charAt.2.1 8 = .ok (.baload, 1) := dc9_51 (by decide +kernel)
theorem d_JT_charAt_9 : decode y_JT_charAt.2.1 9 = .ok (.sipush 255, 3) := dc9_17 (by decide +kernel)
theorem d_JT_charAt_12 : decode y_JT_charAt.2.1 12 = .ok (.iand, 1) := dc9_126 (by decide +kernel)
theorem d_JT_charAt_13 : decode y_JT_charAt.2.1 13 = .ok (.i2c, 1) := dc9_146 (by decide +kernel)
theorem d_JT_charAt_14 : decode y_JT_charAt.2.1 14 = .ok (.ireturn, 1) := dc9_172 (by decide +kernel)
theorem d_JS_checkIndex_0 : decode y_JS_checkIndex.2.1 0 = .ok (.iload_n 0, 1) := dc9_26 (by decide +kernel)
theorem d_JS_checkIndex_1 : decode y_JS_checkIndex.2.1 1 = .ok (.iload_n 1, 1) := dc9_27 (by decide +kernel)
theorem d_JS_checkIndex_2 : decode y_JS_checkIndex.2.1 2 = .ok (.getstatic 1053, 3) := dc9_178 (by decide +kernel)
theorem d_JS_checkIndex_5 : decode y_JS_checkIndex.2.1 5 = .ok (.invokestatic 1059, 3) := dc9_184 (by decide +kernel)
theorem d_JS_checkIndex_8 : decode y_JS_checkIndex.2.1 8 = .ok (.pop, 1) := dc9_87 (by decide +kernel)
theorem d_JS_checkIndex_9 : decode y_JS_checkIndex.2.1 9 = .ok (.return_, 1) := dc9_177 (by decide +kernel)
theorem d_JP_checkIndex_0 : decode y_JP_checkIndex.2.1 0 = .ok (.iload_n 0, 1) := dc9_26 (by decide +kernel)
theorem d_JP_checkIndex_1 : decode y_JP_checkIndex.2.1 1 = .ok (.ifCond .lt 8, 3) := dc9_155 (by decide +kernel)
theorem d_JP_checkIndex_4 : decode y_JP_checkIndex.2.1 4 = .ok (.iload_n 0, 1) := dc9_26 (by decide +kernel)
theorem d_JP_checkIndex_5 : decode y_JP_checkIndex.2.1 5 = .ok (.iload_n 1, 1) := dc9_27 (by decide +kernel)
theorem d_JP_checkIndex_6 : decode y_JP_checkIndex.2.1 6 = .ok (.if_icmp .lt 10, 3) := dc9_161 (by decide +kernel)
theorem d_JP_checkIndex_16 : decode y_JP_checkIndex.2.1 16 = .ok (.iload_n 0, 1) := dc9_26 (by decide +kernel)
theorem d_JP_checkIndex_17 : decode y_JP_checkIndex.2.1 17 = .ok (.ireturn, 1) := dc9_172 (by decide +kernel)
/-- an old array of n bytes f -/
def BA (G : mG) (A n : Nat) (f : Nat → Int) : Prop := va_T .byte A n (fun j => .int (Int32.ofInt (f j))) (mOwn G) (gS G) (gS G).heap ∧ n < 100 ∧ ∀ j, j < n → 0 ≤ f j ∧ f j < 128
/-- an old string of n letters f -/
def Str (G : mG) (t n : Nat) (f : Nat → Int) : Prop := va_O "java/lang/String" t (mOwn G) (gS G) (gS G).heap ∧ va_OF "java/lang/String" "coder" "B" (mcv (vi 0)) t (mOwn G) (gS G) (gS G).heap ∧ ∃ A : Nat, va_OF "java/lang/String" "value" "[B" (mcv (vo A)) t (mOwn G) (gS G) (gS G).heap ∧ BA G A n f
/-- what the classes of the JDK hold of themselves -/
def JD (G : mG) : Prop := va_Z "java/lang/String" "COMPACT_STRINGS" "Z" (mcv (vi 1)) (mOwn G) (gS G) (gS G).heap ∧ va_Zq "jdk/internal/util/Preconditions" "SIOOBE_FORMATTER" "Ljava/util/function/BiFunction;" (mOwn G) (gS G) (gS G).heap
section STR
variable {G : mG} {y y2 : mY} {d pc t n A : Nat} {f : Nat → Int} {L st As : List mV} {M : mM} {Q : Option mV → mM → Prop} {H : Heap}
theorem mRep.oq (hR : mRep G M H) : ∀ a : Nat, a < (gS G).heap.size → ¬ mOwn G a → H[a]? = (gS G).heap[a]? := fun a _ ha => hR.2.2.2.2.1 a (Nat.not_le.mp ha)
theorem wm_aldO_n {k0 : Fin 4} {i x : Nat} (hd : decode y.2.1 pc = .ok (.aload_n k0, 1)) (hi : (k0 : Nat) = i) (hv : L[i]? = some (vo x)) (h : mWm G y d (pc + 1) L (vo x :: st) M Q) : mWm G y d pc L st M Q :=
  wm_st (fun p e R s m args below meth c H locs cells slots ls Qf hA hR hL k => lv_aload_n hA.1 hA.2.1 hd hi (hL.at hv rfl) k) h
theorem wm_ldcS {own tx : String} {idx : Nat} (ho : y.1.cls = own) (hZ : vk_R own idx tx t (gS G)) (hd : decode y.2.1 pc = .ok (.ldc idx, 2)) (h : mWm G y d (pc + 2) L (vo t :: st) M Q) : mWm G y d pc L st M Q :=
  wm_st (fun p e R s m args below meth c H locs cells slots ls Qf hA hR hL k => by
    obtain ⟨hx, hb, hml, -, -, -, hown, hKK, hts, hh, hal, -⟩ := hA
    exact va_ldcS hx hb (own := own) (by rw [← ho]; exact hown) (hal.2 _ _ _ _ hZ) hd k) h
theorem wm_getfO {idx : Nat} {o nm dd : String} {v : mV} (hw : Cond.fieldLink y.1.cls idx o nm dd ∈ lw_R) (hE : va_OF o nm dd (mcv v) t (mOwn G) (gS G) (gS G).heap) (hd : decode y.2.1 pc = .ok (.getfield idx, 3)) (h : mWm G y d (pc + 3) L (v :: st) M Q) : mWm G y d pc L (vo t :: st) M Q :=
  wm_st (fun p e R s m args below meth c H locs cells slots ls Qf hA hR hL k => by
    obtain ⟨hx, hb, hml, -, -, -, hown, hKK, hts, hh, hal, -⟩ := hA
    obtain ⟨cf, kf, i, fd, cell, h1, h2, h3, h4, h5, h6⟩ := (hE.moved hal.1).kept hR.oq
    exact W.getf hx hb hown (hts _ hw) h1 h2 h3 h4 (v := mcv v) h5 rfl rfl hd k) h
theorem wm_alenO (hT : BA G A n f) (hd : decode y.2.1 pc = .ok (.arraylength, 1)) (h : mWm G y d (pc + 1) L (vi n :: st) M Q) : mWm G y d pc L (vo A :: st) M Q :=
  wm_st (fun p e R s m args below meth c H locs cells slots ls Qf hA hR hL k => by
    obtain ⟨hx, hb, hml, -, -, -, hown, hKK, hts, hh, hal, -⟩ := hA
    obtain ⟨cell, g1, g2, g3, g4, g5, g6, g7⟩ := (hT.1.moved hal.1).kept hR.oq
    exact W.alen (n := Int32.ofInt (n : Int)) hx hb g1 g2 (by rw [g5]; rfl) rfl rfl hd k) h
theorem wm_baldO {i : Int} (hT : BA G A n f) (hi : 0 ≤ i ∧ i < n) (hd : decode y.2.1 pc = .ok (.baload, 1)) (h : mWm G y d (pc + 1) L (vi (f i.toNat) :: st) M Q) : mWm G y d pc L (vi i :: vo A :: st) M Q :=
  wm_st (fun p e R s m args below meth c H locs cells slots ls Qf hA hR hL k => by
    obtain ⟨hx, hb, hml, -, -, -, hown, hKK, hts, hh, hal, -⟩ := hA
    obtain ⟨cell, g1, g2, g3, g4, g5, g6, g7⟩ := (hT.1.moved hal.1).kept hR.oq
    have hn := hT.2.1
    have hi3 : i32 i := ⟨by omega, by omega⟩
    exact W.bald (v := mcv (vi (f i.toNat))) hx hb g1 g2 g3 (by rw [i32_lt0 hi3, i32_clamp hi3]; omega) (by rw [i32_clamp hi3]; exact g6 _ (by omega)) rfl rfl hd k) h
theorem wm_getsO {idx : Nat} {C nm dd : String} {v : mV} (hw : Cond.fieldLink y.1.cls idx C nm dd ∈ lw_R) (hZ : va_Z C nm dd (mcv v) (mOwn G) (gS G) (gS G).heap) (hd : decode y.2.1 pc = .ok (.getstatic idx, 3)) (h : mWm G y d (pc + 3) L (v :: st) M Q) : mWm G y d pc L st M Q :=
  wm_st (fun p e R s m args below meth c H locs cells slots ls Qf hA hR hL k => by
    obtain ⟨hx, hb, hml, -, -, -, hown, hKK, hts, hh, hal, -⟩ := hA
    obtain ⟨cf, kf, fi, fd, a, cell, h1, h2, h3, h4, h5, h6, h7, h8⟩ := (hZ.moved hal.1).kept hR.oq
    exact W.gets hx hb hown (hts _ hw) h1 h2 h3 h4 h5 (fun e => by rw [e] at h6; cases h6) h7 rfl hd k) h
theorem wm_callO {idx k : Nat} {st0 : List mV} (hO : va_O y2.1.cls t (mOwn G) (gS G) (gS G).heap) (h1 : Cond.methodLink y.1.cls idx y2.1 ∈ lw_R) (h2 : Cond.instanceMethod y2.1 ∈ lw_R) (h3 : Cond.selects y2.1.cls y2.1 y2.1 ∈ lw_R) (h4 : Cond.initialized y2.1.cls ∈ lw_R) (h5 : yC y2 ∈ lw_R) (hd2 : y2.1.cls ≠ "java/lang/invoke/MethodHandle" ∧ y2.1.cls ≠ "java/lang/invoke/VarHandle" ∧ (parseMethodDescriptor y2.1.desc).map (fun d => d.parameters.length) = some k) (hnL : y2.2.2.1 ≤ 45) (hn : As.length = k) (hst : st0 = As.reverse ++ vo t :: st) (hW : (st.map mcat).sum ≤ 8) (hd : decode y.2.1 pc = .ok (.invokevirtual idx, 3))
    (h : mCm G y2 d (vo t :: As) M (fun r M1 => mWm G y (d + 1) (pc + 3) L (r.toList ++ st) M1 Q)) : mWm G y (d + 1) pc L st0 M Q :=
  wm_run (a0 := (Value.ref t :: As.map mcv).toArray) (fun r M1 hC p e R s m args below meth c9 H locs cells slots ls hA hR hL hf => by
    subst hst
    obtain ⟨hx, hb, hml, -, -, -, hown, hKK, hts, hh, hal, hfr, hlo⟩ := hA
    obtain ⟨cell, q1, q2, q3, q4⟩ := (hO.moved hal.1).kept hR.oq
    have hbv : mcv (vo t) = .ref t := rfl
    have hM := hC.2
    rw [List.map_cons, hbv] at hM
    refine va_runV ⟨hx, hb, hml, hown, hts⟩ hM (C := y2.1.cls) (n := k) ⟨callB_of k hts (zGood h5 rfl) rfl rfl rfl (hts _ h4) (hts _ h1) hd2 (m_room hfr hlo hnL), hts _ h2, hts _ h3⟩ ⟨mPre_blind, ⟨cell, q1, q2, q3⟩, fun U hU hW9 => ⟨rfl, mPre_at hKK hh hal hR hU hW9⟩⟩ rfl (by rw [List.length_map]; exact hn) hL.1 ?_ (by rw [m_cats]; show 2 * 0 + _ ≤ 8; omega) hd hf
    show (As.reverse ++ vo t :: st).map mcv = _
    rw [List.map_append, List.map_cons, hbv, List.map_reverse]) h
theorem wm_callOi {idx k : Nat} {st0 : List mV} (hO : va_O y2.1.cls t (mOwn G) (gS G) (gS G).heap) (h1 : Cond.methodLink y.1.cls idx y2.1 ∈ lw_R) (h2 : Cond.instanceMethod y2.1 ∈ lw_R) (h3 : Cond.selects y2.1.cls y2.1 y2.1 ∈ lw_R) (h4 : Cond.initialized y2.1.cls ∈ lw_R) (h5 : yC y2 ∈ lw_R) (hd2 : y2.1.cls ≠ "java/lang/invoke/MethodHandle" ∧ y2.1.cls ≠ "java/lang/invoke/VarHandle" ∧ (parseMethodDescriptor y2.1.desc).map (fun d => d.parameters.length) = some k) (hnL : y2.2.2.1 ≤ 45) (hn : As.length = k) (hst : st0 = As.reverse ++ vo t :: st) (hW : (st.map mcat).sum ≤ 8) (hd : decode y.2.1 pc = .ok (.invokevirtual idx, 3))
    (h : Ci G y2 d (vo t :: As) M (fun x M1 => mWm G y (d + 1) (pc + 3) L (vi x :: st) M1 Q)) : mWm G y (d + 1) pc L st0 M Q :=
  wm_callO hO h1 h2 h3 h4 h5 hd2 hnL hn hst hW hd (mCm.mono h (fun r9 M9 q9 => by obtain ⟨x9, e9, q9⟩ := q9; subst e9; exact q9))
theorem wm_callSi {idx k : Nat} {st0 : List mV} (h1 : Cond.methodLink y.1.cls idx y2.1 ∈ lw_R) (h2 : Cond.static y2.1 ∈ lw_R) (h4 : Cond.initialized y2.1.cls ∈ lw_R) (h5 : yC y2 ∈ lw_R) (hd2 : y2.1.cls ≠ "java/lang/invoke/MethodHandle" ∧ y2.1.cls ≠ "java/lang/invoke/VarHandle" ∧ (parseMethodDescriptor y2.1.desc).map (fun d => d.parameters.length) = some k) (hnL : y2.2.2.1 ≤ 45) (hn : As.length = k) (hst : st0 = As.reverse ++ st) (hW : (st.map mcat).sum ≤ 8) (hd : decode y.2.1 pc = .ok (.invokestatic idx, 3))
    (h : Ci G y2 d As M (fun x M1 => mWm G y (d + 1) (pc + 3) L (vi x :: st) M1 Q)) : mWm G y (d + 1) pc L st0 M Q :=
  wm_callS h1 h2 h4 h5 hd2 hnL hn hst hW hd (mCm.mono h (fun r9 M9 q9 => by obtain ⟨x9, e9, q9⟩ := q9; subst e9; exact q9))
theorem wm_callSv {idx k : Nat} {st0 : List mV} (h1 : Cond.methodLink y.1.cls idx y2.1 ∈ lw_R) (h2 : Cond.static y2.1 ∈ lw_R) (h4 : Cond.initialized y2.1.cls ∈ lw_R) (h5 : yC y2 ∈ lw_R) (hd2 : y2.1.cls ≠ "java/lang/invoke/MethodHandle" ∧ y2.1.cls ≠ "java/lang/invoke/VarHandle" ∧ (parseMethodDescriptor y2.1.desc).map (fun d => d.parameters.length) = some k) (hnL : y2.2.2.1 ≤ 45) (hn : As.length = k) (hst : st0 = As.reverse ++ st) (hW : (st.map mcat).sum ≤ 8) (hd : decode y.2.1 pc = .ok (.invokestatic idx, 3))
    (h : Cv G y2 d As M (fun M1 => mWm G y (d + 1) (pc + 3) L st M1 Q)) : mWm G y (d + 1) pc L st0 M Q :=
  wm_callS h1 h2 h4 h5 hd2 hnL hn hst hW hd (mCm.mono h (fun r9 M9 q9 => by obtain ⟨e9, q9⟩ := q9; subst e9; exact q9))
theorem s_JP_checkIndex {i k : Int} (ii : i32 i) (ik : i32 k) (h : 0 ≤ i ∧ i < k) : Ci G y_JP_checkIndex d [vi i, vi k, vr 0] M (fun r M' => M' = M) ∧ ∀ q : Nat, Ci G y_JP_checkIndex d [vi i, vi k, vo q] M (fun r M' => M' = M) := by
  constructor
  · refine wm_open (y := y_JP_checkIndex) rfl (Nat.le_of_ble_eq_true rfl) (L := [vi i, vi k, vr 0]) rfl ?_
    refine wm_iload_n d_JP_checkIndex_0 rfl rfl ?_
    refine wm_if_lt (tgt := 9) d_JP_checkIndex_1 rfl ii (fun c => by omega) (fun _ => ?_)
    refine wm_iload_n d_JP_checkIndex_4 rfl rfl ?_
    refine wm_iload_n d_JP_checkIndex_5 rfl rfl ?_
    refine wm_icmp_lt (tgt := 16) d_JP_checkIndex_6 rfl ii ik (fun _ => ?_) (fun c => by omega)
    refine wm_iload_n d_JP_checkIndex_16 rfl rfl ?_
    refine wm_ireturn d_JP_checkIndex_17 rfl rfl ?_
    exact ⟨_, rfl, rfl⟩
  · intro q
    refine wm_open (y := y_JP_checkIndex) rfl (Nat.le_of_ble_eq_true rfl) (L := [vi i, vi k, vo q]) rfl ?_
    refine wm_iload_n d_JP_checkIndex_0 rfl rfl ?_
    refine wm_if_lt (tgt := 9) d_JP_checkIndex_1 rfl ii (fun c => by omega) (fun _ => ?_)
    refine wm_iload_n d_JP_checkIndex_4 rfl rfl ?_
    refine wm_iload_n d_JP_checkIndex_5 rfl rfl ?_
    refine wm_icmp_lt (tgt := 16) d_JP_checkIndex_6 rfl ii ik (fun _ => ?_) (fun c => by omega)
    refine wm_iload_n d_JP_checkIndex_16 rfl rfl ?_
    refine wm_ireturn d_JP_checkIndex_17 rfl rfl ?_
    exact ⟨_, rfl, rfl⟩
theorem s_JS_checkIndex {i k : Int} (hJ : JD G) (ii : i32 i) (ik : i32 k) (h : 0 ≤ i ∧ i < k) : Cv G y_JS_checkIndex (d + 1) [vi i, vi k] M (fun M' => M' = M) := by
  rcases hJ.2 with hz | ⟨q, hz⟩
  · refine wm_open (y := y_JS_checkIndex) rfl (Nat.le_of_ble_eq_true rfl) (L := [vi i, vi k]) rfl ?_
    refine wm_iload_n d_JS_checkIndex_0 rfl rfl ?_
    refine wm_iload_n d_JS_checkIndex_1 rfl rfl ?_
    refine wm_getsO (v := vr 0) kt_fmt hz d_JS_checkIndex_2 ?_
    refine wm_callSi (y2 := y_JP_checkIndex) (k := 3) (As := [vi i, vi k, vr 0]) kt_preL kt_preS kt_iP kt_preC ⟨by decide, by decide, by decide +kernel⟩ (by decide) rfl rfl (Nat.le_of_ble_eq_true rfl) d_JS_checkIndex_5 ?_
    refine ((s_JP_checkIndex (d := d) ii ik h).1).mono (fun x M' q' => ?_)
    subst q'
    refine wm_pop (v := vi x) d_JS_checkIndex_8 rfl ?_
    refine wm_return d_JS_checkIndex_9 rfl ?_
    exact ⟨rfl, rfl⟩
  · refine wm_open (y := y_JS_checkIndex) rfl (Nat.le_of_ble_eq_true rfl) (L := [vi i, vi k]) rfl ?_
    refine wm_iload_n d_JS_checkIndex_0 rfl rfl ?_
    refine wm_iload_n d_JS_checkIndex_1 rfl rfl ?_
    refine wm_getsO (v := vo q) kt_fmt hz d_JS_checkIndex_2 ?_
    refine wm_callSi (y2 := y_JP_checkIndex) (k := 3) (As := [vi i, vi k, vo q]) kt_preL kt_preS kt_iP kt_preC ⟨by decide, by decide, by decide +kernel⟩ (by decide) rfl rfl (Nat.le_of_ble_eq_true rfl) d_JS_checkIndex_5 ?_
    refine ((s_JP_checkIndex (d := d) ii ik h).2 q).mono (fun x M' q' => ?_)
    subst q'
    refine wm_pop (v := vi x) d_JS_checkIndex_8 rfl ?_
    refine wm_return d_JS_checkIndex_9 rfl ?_
    exact ⟨rfl, rfl⟩
theorem s_JS_coder (hJ : JD G) (hs : Str G t n f) : Ci G y_JS_coder d [vo t] M (fun r M' => r = 0 ∧ M' = M) := by
  refine wm_open (y := y_JS_coder) rfl (Nat.le_of_ble_eq_true rfl) (L := [vo t]) rfl ?_
  refine wm_getsO (v := vi 1) kt_cmp hJ.1 d_JS_coder_0 ?_
  refine wm_if_eq (tgt := 13) d_JS_coder_3 rfl ⟨by decide, by decide⟩ (fun c => by omega) (fun _ => ?_)
  refine wm_aldO_n d_JS_coder_6 rfl rfl ?_
  refine wm_getfO (v := vi 0) kt_cod hs.2.1 d_JS_coder_7 ?_
  refine wm_goto (tgt := 14) d_JS_coder_10 rfl ?_
  refine wm_ireturn d_JS_coder_14 rfl rfl ?_
  exact ⟨_, rfl, rfl, rfl⟩
theorem s_JS_isLatin1 (hJ : JD G) (hs : Str G t n f) : Ci G y_JS_isLatin1 d [vo t] M (fun r M' => r = 1 ∧ M' = M) := by
  refine wm_open (y := y_JS_isLatin1) rfl (Nat.le_of_ble_eq_true rfl) (L := [vo t]) rfl ?_
  refine wm_getsO (v := vi 1) kt_cmp hJ.1 d_JS_isLatin1_0 ?_
  refine wm_if_eq (tgt := 17) d_JS_isLatin1_3 rfl ⟨by decide, by decide⟩ (fun c => by omega) (fun _ => ?_)
  refine wm_aldO_n d_JS_isLatin1_6 rfl rfl ?_
  refine wm_getfO (v := vi 0) kt_cod hs.2.1 d_JS_isLatin1_7 ?_
  refine wm_if_ne (tgt := 17) d_JS_isLatin1_10 rfl ⟨by decide, by decide⟩ (fun c => absurd rfl c) (fun _ => ?_)
  refine wm_iconst d_JS_isLatin1_13 ?_
  refine wm_goto (tgt := 18) d_JS_isLatin1_14 rfl ?_
  refine wm_ireturn d_JS_isLatin1_18 rfl rfl ?_
  exact ⟨_, rfl, rfl, rfl⟩
theorem shrI0 {n : Nat} (h : n < 100) : shrI (n : Int) 0 = n := by
  have : ∀ k : Fin 100, shrI ((k.val : Nat) : Int) 0 = ((k.val : Nat) : Int) := by decide +kernel
  exact this ⟨n, h⟩
theorem s_JS_length (hJ : JD G) (hs : Str G t n f) : Ci G y_JS_length (d + 1) [vo t] M (fun r M' => r = n ∧ M' = M) := by
  obtain ⟨A, hv, hT⟩ := hs.2.2
  refine wm_open (y := y_JS_length) rfl (Nat.le_of_ble_eq_true rfl) (L := [vo t]) rfl ?_
  refine wm_aldO_n d_JS_length_0 rfl rfl ?_
  refine wm_getfO (v := vo A) kt_val hv d_JS_length_1 ?_
  refine wm_alenO hT d_JS_length_4 ?_
  refine wm_aldO_n d_JS_length_5 rfl rfl ?_
  refine wm_callOi (y2 := y_JS_coder) (k := 0) (As := []) hs.1 kt_codL kt_codI kt_codS kt_iS kt_codC ⟨by decide, by decide, by decide +kernel⟩ (by decide) rfl rfl (Nat.le_of_ble_eq_true rfl) d_JS_length_6 ?_
  refine (s_JS_coder (d := d) hJ hs).mono (fun x M' q' => ?_)
  obtain ⟨rfl, rfl⟩ := q'
  refine wm_ishr d_JS_length_9 ?_
  rw [shrI0 hT.2.1]
  refine wm_ireturn d_JS_length_10 rfl rfl ?_
  exact ⟨_, rfl, rfl, rfl⟩
theorem andc {x : Int} (h : 0 ≤ x ∧ x < 128) : i2cI (andI x 255) = x := by
  have : ∀ k : Fin 128, i2cI (andI ((k.val : Nat) : Int) 255) = ((k.val : Nat) : Int) := by decide +kernel
  have e := this ⟨x.toNat, by omega⟩
  have ex : ((x.toNat : Nat) : Int) = x := by omega
  rw [show ((⟨x.toNat, by omega⟩ : Fin 128).val : Int) = x from ex] at e
  exact e
theorem s_JT_charAt {i : Nat} (hJ : JD G) (hT : BA G A n f) (hi : i < n) : Ci G y_JT_charAt (d + 2) [vo A, vi i] M (fun r M' => r = f i ∧ M' = M) := by
  have hn := hT.2.1
  have ii : i32 (i : Int) := ⟨by omega, by omega⟩
  have hf := hT.2.2 i hi
  refine wm_open (y := y_JT_charAt) rfl (Nat.le_of_ble_eq_true rfl) (L := [vo A, vi i]) rfl ?_
  refine wm_iload_n d_JT_charAt_0 rfl rfl ?_
  refine wm_aldO_n d_JT_charAt_1 rfl rfl ?_
  refine wm_alenO hT d_JT_charAt_2 ?_
  refine wm_callSv (y2 := y_JS_checkIndex) (k := 2) (As := [vi i, vi n]) kt_chkL kt_chkS kt_iS kt_chkC ⟨by decide, by decide, by decide +kernel⟩ (by decide) rfl rfl (Nat.le_of_ble_eq_true rfl) d_JT_charAt_3 ?_
  refine (s_JS_checkIndex (d := d) hJ ii ⟨by omega, by omega⟩ ⟨by omega, by omega⟩).mono (fun M' q' => ?_)
  subst q'
  refine wm_aldO_n d_JT_charAt_6 rfl rfl ?_
  refine wm_iload_n d_JT_charAt_7 rfl rfl ?_
  refine wm_baldO hT ⟨by omega, by omega⟩ d_JT_charAt_8 ?_
  refine wm_sipush d_JT_charAt_9 (by decide) ?_
  refine wm_iand d_JT_charAt_12 ?_
  refine wm_i2c d_JT_charAt_13 ?_
  rw [Int.toNat_natCast, andc hf]
  refine wm_ireturn d_JT_charAt_14 rfl (m_char ⟨by omega, by omega⟩) ?_
  exact ⟨_, rfl, rfl, rfl⟩
theorem s_JS_charAt {i : Nat} (hJ : JD G) (hs : Str G t n f) (hi : i < n) : Ci G y_JS_charAt (d + 3) [vo t, vi i] M (fun r M' => r = f i ∧ M' = M) := by
  obtain ⟨A, hv, hT⟩ := hs.2.2
  have hf := hT.2.2 i hi
  refine wm_open (y := y_JS_charAt) rfl (Nat.le_of_ble_eq_true rfl) (L := [vo t, vi i]) rfl ?_
  refine wm_aldO_n d_JS_charAt_0 rfl rfl ?_
  refine wm_callOi (y2 := y_JS_isLatin1) (k := 0) (As := []) hs.1 kt_latL kt_latI kt_latS kt_iS kt_latC ⟨by decide, by decide, by decide +kernel⟩ (by decide) rfl rfl (Nat.le_of_ble_eq_true rfl) d_JS_charAt_1 ?_
  refine (s_JS_isLatin1 (d := d + 2) hJ hs).mono (fun x M' q' => ?_)
  obtain ⟨rfl, rfl⟩ := q'
  refine wm_if_eq (tgt := 16) d_JS_charAt_4 rfl ⟨by decide, by decide⟩ (fun c => by omega) (fun _ => ?_)
  refine wm_aldO_n d_JS_charAt_7 rfl rfl ?_
  refine wm_getfO (v := vo A) kt_val hv d_JS_charAt_8 ?_
  refine wm_iload_n d_JS_charAt_11 rfl rfl ?_
  refine wm_callSi (y2 := y_JT_charAt) (k := 2) (As := [vo A, vi i]) kt_ltcL kt_ltcS kt_iT kt_ltcC ⟨by decide, by decide, by decide +kernel⟩ (by decide) rfl rfl (Nat.le_of_ble_eq_true rfl) d_JS_charAt_12 ?_
  refine (s_JT_charAt (d := d) hJ hT hi).mono (fun x M' q' => ?_)
  obtain ⟨rfl, rfl⟩ := q'
  refine wm_ireturn d_JS_charAt_15 rfl (m_char ⟨by omega, by omega⟩) ?_
  exact ⟨_, rfl, rfl, rfl⟩
/-- the two calls that the program makes -/
theorem wm_strLen {idx : Nat} (hJ : JD G) (hs : Str G t n f) (hw : Cond.methodLink y.1.cls idx y_JS_length.1 ∈ lw_R) (hW : (st.map mcat).sum ≤ 8) (hd : decode y.2.1 pc = .ok (.invokevirtual idx, 3)) (h : mWm G y (d + 2) (pc + 3) L (vi n :: st) M Q) : mWm G y (d + 2) pc L (vo t :: st) M Q := by
  refine wm_callOi (y2 := y_JS_length) (k := 0) (As := []) hs.1 hw kt_lenI kt_lenS kt_iS kt_lenC ⟨by decide, by decide, by decide +kernel⟩ (by decide) rfl rfl hW hd ?_
  refine (s_JS_length (d := d) hJ hs).mono (fun x M' q' => ?_)
  obtain ⟨rfl, rfl⟩ := q'
  exact h
theorem wm_strAt {idx i : Nat} (hJ : JD G) (hs : Str G t n f) (hi : i < n) (hw : Cond.methodLink y.1.cls idx y_JS_charAt.1 ∈ lw_R) (hW : (st.map mcat).sum ≤ 8) (hd : decode y.2.1 pc = .ok (.invokevirtual idx, 3)) (h : mWm G y (d + 4) (pc + 3) L (vi (f i) :: st) M Q) : mWm G y (d + 4) pc L (vi i :: vo t :: st) M Q := by
  refine wm_callOi (y2 := y_JS_charAt) (k := 1) (As := [vi i]) hs.1 hw kt_chaI kt_chaS kt_iS kt_chaC ⟨by decide, by decide, by decide +kernel⟩ (by decide) rfl rfl hW hd ?_
  refine (s_JS_charAt (d := d) hJ hs hi).mono (fun x M' q' => ?_)
  obtain ⟨rfl, rfl⟩ := q'
  exact h
end STR
end
section
/-! What the law's start says of the string constants and of the JDK's own fields. -/
/-- a string constant of a class -/
def Lit (G : mG) (own : String) (k : Nat) (tx : String) (l : List Int) : Prop := ∃ t : Nat, vk_R own k tx t (gS G) ∧ Str G t l.length (fun j => l.getD j 0)
section LIT
variable {G : mG} {args : Array Value}
theorem Lit.of {own tx : String} {k n : Nat} {f : List Int} (hB : gB G = (gS G).heap.size) (hn : n < 100) (hf : ∀ j, j < n → 0 ≤ f.getD j 0 ∧ f.getD j 0 < 128) (hr : (Cond.stringRef own k tx).before args (gS G) = true) (hex : (Cond.exactly (.string own k) "java/lang/String").before args (gS G) = true) (hco : (Cond.eq (.field (.string own k) "java/lang/String" "coder" "B") (.int 0)).before args (gS G) = true)
    (har : (Cond.arrayOf (.field (.string own k) "java/lang/String" "value" "[B") .byte).before args (gS G) = true) (hle : (Cond.eq (.length (.field (.string own k) "java/lang/String" "value" "[B")) (.int (Int32.ofNat n))).before args (gS G) = true)
    (hel : ∀ j : Nat, j < n → (Cond.eq (.elem (.field (.string own k) "java/lang/String" "value" "[B") (.int (Int32.ofNat j))) (.int (Int32.ofInt (f.getD j 0)))).before args (gS G) = true) : ∃ t : Nat, vk_R own k tx t (gS G) ∧ Str G t n (fun j => f.getD j 0) := by
  have hA : ∀ a : Nat, a < (gS G).heap.size → ¬ mOwn G a := fun a ha h => by
    have h : gB G ≤ a := h
    omega
  obtain ⟨a, c, cA, kA, q1, q2, q3, q4, q5, q6, -⟩ := Cond.exactly_spec (args := args) (first := gS G) (o := none) (s := gS G) (idx := []) (t := .string own k) (cls := "java/lang/String") hex
  obtain ⟨t, ht, hT⟩ := va_Tof (f := fun j => .int (Int32.ofInt (f.getD j 0))) (A := mOwn G) (by omega) har (va_eqt hle) (fun j hj => va_eqt (hel j hj)) hA
  exact ⟨a, vk_R.of hr q1, ⟨cA, q3, q5, by rw [q6]; exact q2, hA a (Array.getElem?_eq_some_iff.mp q3).1⟩, vk_OFof q1 (va_eqt hco) hA, t, vk_OFof q1 ht hA, hT, hn, hf⟩
theorem JD.of (hB : gB G = (gS G).heap.size) (h1 : (Cond.laysStatic "java/lang/String" "COMPACT_STRINGS" "Z").before args (gS G) = true) (h2 : (Cond.initialized "java/lang/String").before args (gS G) = true) (h3 : (Cond.eq (.static "java/lang/String" "COMPACT_STRINGS" "Z") (.int 1)).before args (gS G) = true) (g1 : (Cond.laysStatic "jdk/internal/util/Preconditions" "SIOOBE_FORMATTER" "Ljava/util/function/BiFunction;").before args (gS G) = true) (g2 : (Cond.initialized "jdk/internal/util/Preconditions").before args (gS G) = true) (g3 : (Cond.isRef (.static "jdk/internal/util/Preconditions" "SIOOBE_FORMATTER" "Ljava/util/function/BiFunction;")).before args (gS G) = true) : JD G := by
  have hA : ∀ a : Nat, a < (gS G).heap.size → ¬ mOwn G a := fun a ha h => by
    have h : gB G ≤ a := h
    omega
  exact ⟨va_Zof h1 h2 (va_eqt h3) hA, va_Zqof g1 g2 g3 hA⟩
end LIT
end
section
/-! Steps that change nothing but the place and the stack, whatever the run comes to: for methods that throw, and for methods that only read. -/
def mGo (G : mG) (y : mY) (d : Nat) (L : List mV) (M : mM) (pc : Nat) (st : List mV) (pc' : Nat) (st' : List mV) : Prop := ∀ (p : Program) (e : Env) (R : Room) (s : State) (m : MethodId) (args : Array Value) (below : List Frame) (meth : Method) (c : Code) (H : Heap) (locs : List Loc) (cells slots : Nat) (ls : Array Slot) (Qf : State → Prop), mAt G y d p R s m args meth c → mRep G M H → mLs ls y.2.2.1 L → cells ≤ R.cells → slots ≤ R.slots → W p (gL G) e R s m args below meth c H locs cells slots Qf (F0 m pc' ls (st'.map mcv)) → W p (gL G) e R s m args below meth c H locs cells slots Qf (F0 m pc ls (st.map mcv))
section GO
variable {G : mG} {y : mY} {d pc pc9 : Nat} {L st st9 : List mV} {M : mM}
theorem mGo.refl : mGo G y d L M pc st pc st := fun p e R s m args below meth c H locs cells slots ls Qf hA hR hL c1 c2 k => k
theorem go_st {pc' : Nat} {st' : List mV} (hs : ∀ (p : Program) (e : Env) (R : Room) (s : State) (m : MethodId) (args : Array Value) (below : List Frame) (meth : Method) (c : Code) (H : Heap) (locs : List Loc) (cells slots : Nat) (ls : Array Slot) (Qf : State → Prop), mAt G y d p R s m args meth c → mRep G M H → mLs ls y.2.2.1 L → W p (gL G) e R s m args below meth c H locs cells slots Qf (F0 m pc' ls (st'.map mcv)) → W p (gL G) e R s m args below meth c H locs cells slots Qf (F0 m pc ls (st.map mcv))) (h : mGo G y d L M pc' st' pc9 st9) : mGo G y d L M pc st pc9 st9 := fun p e R s m args below meth c H locs cells slots ls Qf hA hR hL c1 c2 k => hs p e R s m args below meth c H locs cells slots ls Qf hA hR hL (h p e R s m args below meth c H locs cells slots ls Qf hA hR hL c1 c2 k)
theorem go_iconst {n : Int} (hd : decode y.2.1 pc = .ok (.iconst n, 1)) (h : mGo G y d L M (pc + 1) (vi n :: st) pc9 st9) : mGo G y d L M pc st pc9 st9 := go_st (fun p e R s m args below meth c H locs cells slots ls Qf hA hR hL k => lv_iconst hA.1 hA.2.1 hd rfl k) h
theorem go_bipush {n : Int} (hd : decode y.2.1 pc = .ok (.bipush n, 2)) (hv : (Int8.ofInt n).toInt32 = Int32.ofInt n) (h : mGo G y d L M (pc + 2) (vi n :: st) pc9 st9) : mGo G y d L M pc st pc9 st9 := go_st (fun p e R s m args below meth c H locs cells slots ls Qf hA hR hL k => lv_bipush hA.1 hA.2.1 hd hv k) h
theorem go_iload_n {k0 : Fin 4} {i : Nat} {x : Int} (hd : decode y.2.1 pc = .ok (.iload_n k0, 1)) (hi : (k0 : Nat) = i) (hv : L[i]? = some (vi x)) (h : mGo G y d L M (pc + 1) (vi x :: st) pc9 st9) : mGo G y d L M pc st pc9 st9 := go_st (fun p e R s m args below meth c H locs cells slots ls Qf hA hR hL k => lv_iload_n hA.1 hA.2.1 hd hi (hL.at hv rfl) k) h
theorem go_aload_n {k0 : Fin 4} {i : Nat} {x : Nat} (hd : decode y.2.1 pc = .ok (.aload_n k0, 1)) (hi : (k0 : Nat) = i) (hv : L[i]? = some (vr x)) (h : mGo G y d L M (pc + 1) (vr x :: st) pc9 st9) : mGo G y d L M pc st pc9 st9 := by
  by_cases h0 : x = 0
  · subst h0
    exact go_st (fun p e R s m args below meth c H locs cells slots ls Qf hA hR hL k => lv_aload_nN hA.1 hA.2.1 hd hi (hL.at hv rfl) k) h
  · have e9 : mcv (vr x) = .ref x := if_neg h0
    exact go_st (fun p e R s m args below meth c H locs cells slots ls Qf hA hR hL k => by
      have k' : W p (gL G) e R s m args below meth c H locs cells slots Qf (F0 m (pc + 1) ls (.ref x :: st.map mcv)) := by rw [← e9]; exact k
      exact lv_aload_n hA.1 hA.2.1 hd hi (by rw [← e9]; exact hL.at hv rfl) k') h
theorem go_iadd {x z : Int} (hd : decode y.2.1 pc = .ok (.iadd, 1)) (h : mGo G y d L M (pc + 1) (vi (x + z) :: st) pc9 st9) : mGo G y d L M pc (vi z :: vi x :: st) pc9 st9 :=
  go_st (fun p e R s m args below meth c H locs cells slots ls Qf hA hR hL k => by
    have k' : W p (gL G) e R s m args below meth c H locs cells slots Qf (F0 m (pc + 1) ls (.int (Int32.ofInt (x + z)) :: st.map mcv)) := k
    rw [Int32.ofInt_add] at k'
    exact lv_iadd hA.1 hA.2.1 hd k') h
theorem go_isub {x z : Int} (hd : decode y.2.1 pc = .ok (.isub, 1)) (h : mGo G y d L M (pc + 1) (vi (x - z) :: st) pc9 st9) : mGo G y d L M pc (vi z :: vi x :: st) pc9 st9 :=
  go_st (fun p e R s m args below meth c H locs cells slots ls Qf hA hR hL k => by
    have k' : W p (gL G) e R s m args below meth c H locs cells slots Qf (F0 m (pc + 1) ls (.int (Int32.ofInt (x - z)) :: st.map mcv)) := k
    rw [Int32.ofInt_sub] at k'
    exact lv_isub hA.1 hA.2.1 hd k') h
theorem go_if_eq {x : Int} {off : Int} {tgt : Nat} (hd : decode y.2.1 pc = .ok (.ifCond .eq off, 3)) (ht : (pc : Int) + off = (tgt : Int)) (hx : i32 x) (kt : x = 0 → mGo G y d L M tgt st pc9 st9) (kf : ¬ (x = 0) → mGo G y d L M (pc + 3) st pc9 st9) : mGo G y d L M pc (vi x :: st) pc9 st9 := by
  by_cases hc : x = 0
  · exact go_st (fun p e R s m args below meth c H locs cells slots ls Qf hA hR hL k => lv_if_eq hA.1 hA.2.1 hd ht (fun _ => k) (fun q => absurd ((i32_eq0 hx).mpr hc) q)) (kt hc)
  · exact go_st (fun p e R s m args below meth c H locs cells slots ls Qf hA hR hL k => lv_if_eq hA.1 hA.2.1 hd ht (fun q => absurd ((i32_eq0 hx).mp q) hc) (fun _ => k)) (kf hc)
theorem go_if_ne {x : Int} {off : Int} {tgt : Nat} (hd : decode y.2.1 pc = .ok (.ifCond .ne off, 3)) (ht : (pc : Int) + off = (tgt : Int)) (hx : i32 x) (kt : ¬ x = 0 → mGo G y d L M tgt st pc9 st9) (kf : ¬ (¬ x = 0) → mGo G y d L M (pc + 3) st pc9 st9) : mGo G y d L M pc (vi x :: st) pc9 st9 := by
  by_cases hc : ¬ x = 0
  · exact go_st (fun p e R s m args below meth c H locs cells slots ls Qf hA hR hL k => lv_if_ne hA.1 hA.2.1 hd ht (fun _ => k) (fun q => absurd ((i32_eq0 hx).mp q) hc)) (kt hc)
  · exact go_st (fun p e R s m args below meth c H locs cells slots ls Qf hA hR hL k => lv_if_ne hA.1 hA.2.1 hd ht (fun q => absurd ((i32_eq0 hx).mpr (Classical.not_not.mp hc)) q) (fun _ => k)) (kf hc)
theorem go_if_lt {x : Int} {off : Int} {tgt : Nat} (hd : decode y.2.1 pc = .ok (.ifCond .lt off, 3)) (ht : (pc : Int) + off = (tgt : Int)) (hx : i32 x) (kt : x < 0 → mGo G y d L M tgt st pc9 st9) (kf : ¬ (x < 0) → mGo G y d L M (pc + 3) st pc9 st9) : mGo G y d L M pc (vi x :: st) pc9 st9 := by
  by_cases hc : x < 0
  · exact go_st (fun p e R s m args below meth c H locs cells slots ls Qf hA hR hL k => lv_if_lt hA.1 hA.2.1 hd ht (fun _ => k) (fun q => absurd ((i32_lt0 hx).mpr hc) q)) (kt hc)
  · exact go_st (fun p e R s m args below meth c H locs cells slots ls Qf hA hR hL k => lv_if_lt hA.1 hA.2.1 hd ht (fun q => absurd ((i32_lt0 hx).mp q) hc) (fun _ => k)) (kf hc)
theorem go_icmp_eq {x z : Int} {off : Int} {tgt : Nat} (hd : decode y.2.1 pc = .ok (.if_icmp .eq off, 3)) (ht : (pc : Int) + off = (tgt : Int)) (hx : i32 x) (hz : i32 z) (kt : x = z → mGo G y d L M tgt st pc9 st9) (kf : ¬ (x = z) → mGo G y d L M (pc + 3) st pc9 st9) : mGo G y d L M pc (vi z :: vi x :: st) pc9 st9 := by
  by_cases hc : x = z
  · exact go_st (fun p e R s m args below meth c H locs cells slots ls Qf hA hR hL k => lv_icmp_eq hA.1 hA.2.1 hd ht (fun _ => k) (fun q => absurd ((i32_eq hx hz).mpr hc) q)) (kt hc)
  · exact go_st (fun p e R s m args below meth c H locs cells slots ls Qf hA hR hL k => lv_icmp_eq hA.1 hA.2.1 hd ht (fun q => absurd ((i32_eq hx hz).mp q) hc) (fun _ => k)) (kf hc)
theorem go_icmp_ne {x z : Int} {off : Int} {tgt : Nat} (hd : decode y.2.1 pc = .ok (.if_icmp .ne off, 3)) (ht : (pc : Int) + off = (tgt : Int)) (hx : i32 x) (hz : i32 z) (kt : ¬ x = z → mGo G y d L M tgt st pc9 st9) (kf : ¬ (¬ x = z) → mGo G y d L M (pc + 3) st pc9 st9) : mGo G y d L M pc (vi z :: vi x :: st) pc9 st9 := by
  by_cases hc : ¬ x = z
  · exact go_st (fun p e R s m args below meth c H locs cells slots ls Qf hA hR hL k => lv_icmp_ne hA.1 hA.2.1 hd ht (fun _ => k) (fun q => absurd ((i32_eq hx hz).mp q) hc)) (kt hc)
  · exact go_st (fun p e R s m args below meth c H locs cells slots ls Qf hA hR hL k => lv_icmp_ne hA.1 hA.2.1 hd ht (fun q => absurd ((i32_eq hx hz).mpr (Classical.not_not.mp hc)) q) (fun _ => k)) (kf hc)
theorem go_icmp_lt {x z : Int} {off : Int} {tgt : Nat} (hd : decode y.2.1 pc = .ok (.if_icmp .lt off, 3)) (ht : (pc : Int) + off = (tgt : Int)) (hx : i32 x) (hz : i32 z) (kt : x < z → mGo G y d L M tgt st pc9 st9) (kf : ¬ (x < z) → mGo G y d L M (pc + 3) st pc9 st9) : mGo G y d L M pc (vi z :: vi x :: st) pc9 st9 := by
  by_cases hc : x < z
  · exact go_st (fun p e R s m args below meth c H locs cells slots ls Qf hA hR hL k => lv_icmp_lt hA.1 hA.2.1 hd ht (fun _ => k) (fun q => absurd ((i32_lt hx hz).mpr hc) q)) (kt hc)
  · exact go_st (fun p e R s m args below meth c H locs cells slots ls Qf hA hR hL k => lv_icmp_lt hA.1 hA.2.1 hd ht (fun q => absurd ((i32_lt hx hz).mp q) hc) (fun _ => k)) (kf hc)
theorem go_icmp_ge {x z : Int} {off : Int} {tgt : Nat} (hd : decode y.2.1 pc = .ok (.if_icmp .ge off, 3)) (ht : (pc : Int) + off = (tgt : Int)) (hx : i32 x) (hz : i32 z) (kt : z ≤ x → mGo G y d L M tgt st pc9 st9) (kf : ¬ (z ≤ x) → mGo G y d L M (pc + 3) st pc9 st9) : mGo G y d L M pc (vi z :: vi x :: st) pc9 st9 := by
  by_cases hc : z ≤ x
  · exact go_st (fun p e R s m args below meth c H locs cells slots ls Qf hA hR hL k => lv_icmp_ge hA.1 hA.2.1 hd ht (fun _ => k) (fun q => absurd ((i32_le hz hx).mpr hc) q)) (kt hc)
  · exact go_st (fun p e R s m args below meth c H locs cells slots ls Qf hA hR hL k => lv_icmp_ge hA.1 hA.2.1 hd ht (fun q => absurd ((i32_le hz hx).mp q) hc) (fun _ => k)) (kf hc)
theorem go_icmp_gt {x z : Int} {off : Int} {tgt : Nat} (hd : decode y.2.1 pc = .ok (.if_icmp .gt off, 3)) (ht : (pc : Int) + off = (tgt : Int)) (hx : i32 x) (hz : i32 z) (kt : z < x → mGo G y d L M tgt st pc9 st9) (kf : ¬ (z < x) → mGo G y d L M (pc + 3) st pc9 st9) : mGo G y d L M pc (vi z :: vi x :: st) pc9 st9 := by
  by_cases hc : z < x
  · exact go_st (fun p e R s m args below meth c H locs cells slots ls Qf hA hR hL k => lv_icmp_gt hA.1 hA.2.1 hd ht (fun _ => k) (fun q => absurd ((i32_lt hz hx).mpr hc) q)) (kt hc)
  · exact go_st (fun p e R s m args below meth c H locs cells slots ls Qf hA hR hL k => lv_icmp_gt hA.1 hA.2.1 hd ht (fun q => absurd ((i32_lt hz hx).mp q) hc) (fun _ => k)) (kf hc)
theorem go_icmp_le {x z : Int} {off : Int} {tgt : Nat} (hd : decode y.2.1 pc = .ok (.if_icmp .le off, 3)) (ht : (pc : Int) + off = (tgt : Int)) (hx : i32 x) (hz : i32 z) (kt : x ≤ z → mGo G y d L M tgt st pc9 st9) (kf : ¬ (x ≤ z) → mGo G y d L M (pc + 3) st pc9 st9) : mGo G y d L M pc (vi z :: vi x :: st) pc9 st9 := by
  by_cases hc : x ≤ z
  · exact go_st (fun p e R s m args below meth c H locs cells slots ls Qf hA hR hL k => lv_icmp_le hA.1 hA.2.1 hd ht (fun _ => k) (fun q => absurd ((i32_le hx hz).mpr hc) q)) (kt hc)
  · exact go_st (fun p e R s m args below meth c H locs cells slots ls Qf hA hR hL k => lv_icmp_le hA.1 hA.2.1 hd ht (fun q => absurd ((i32_le hx hz).mp q) hc) (fun _ => k)) (kf hc)
theorem go_goto {off : Int} {tgt : Nat} (hd : decode y.2.1 pc = .ok (.goto off, 3)) (ht : (pc : Int) + off = (tgt : Int)) (h : mGo G y d L M tgt st pc9 st9) : mGo G y d L M pc st pc9 st9 := go_st (fun p e R s m args below meth c H locs cells slots ls Qf hA hR hL k => lv_goto hA.1 hA.2.1 hd ht k) h
theorem go_get {c k idx a : Nat} {C : String} {T : u_T} {N : Nat} {t : Nat → FieldType} {v : mV} (hcl : vwCl[c]? = some (C, T, N)) (hty : vwTy[c]? = some t) (hin : ∀ w ∈ u_ws C T N, w ∈ lw_R) (hk : k < N) (hv : fV (t k) M a k = mcv v) (hl : Cond.fieldLink y.1.cls idx (T k).1 (T k).2.1 (T k).2.2.1 ∈ lw_R) (hd : decode y.2.1 pc = .ok (.getfield idx, 3)) (hK : mK M a = c + 1) (h : mGo G y d L M (pc + 3) (v :: st) pc9 st9) : mGo G y d L M pc (vr a :: st) pc9 st9 :=
  go_st (fun p e R s m args below meth co H locs cells slots ls Qf hA hR hL kk => by
    obtain ⟨hb1, cell, q1, q2, q3, q4⟩ := (hR.2.2.2.2.2.2 a).1 c _ t hK hcl hty
    obtain ⟨hx, hb, -, -, -, -, hown, hKK, hts, -⟩ := hA
    obtain ⟨hS, hfc, kC, hkC, hkind⟩ := hKK.1 c _ hcl
    obtain ⟨cf, kf, fi, f, hi, hsl⟩ := hS k hk
    show W p (gL G) e R s m args below meth co H locs cells slots Qf (F0 m pc ls (mcv (vr a) :: st.map mcv))
    rw [hR.own hb1]
    refine W.getf hx hb hown (hts _ hl) hi (u_facts hfc hkC (u_lays hts hin hk) hi).1 q1 (by rw [q3]; exact fun h => by cases h) (v := mcv v) ?_ rfl rfl hd kk
    rw [hsl, q4 k hk]
    exact congrArg some hv) h
theorem go_iald {a : Nat} {i : Int} (hd : decode y.2.1 pc = .ok (.iaload, 1)) (hK : mK M a = 30) (hi : 0 ≤ i ∧ i < mN M a) (h : mGo G y d L M (pc + 1) (vi (mI M a i.toNat) :: st) pc9 st9) : mGo G y d L M pc (vi i :: vr a :: st) pc9 st9 :=
  go_st (fun p e R s m args below meth co H locs cells slots ls Qf hA hR hL kk => by
    obtain ⟨g1, g2, g3⟩ := (hR.2.2.2.2.2.2 a).2.1 0 .int hK rfl
    obtain ⟨hx, hb, -, -, -, -, hown, hKK, hts, -⟩ := hA
    have hi3 : i32 i := ⟨by omega, by omega⟩
    show W p (gL G) e R s m args below meth co H locs cells slots Qf (F0 m pc ls (.int (Int32.ofInt i) :: mcv (vr a) :: st.map mcv))
    rw [hR.own g1]
    exact W.iald (v := mcv (vi (mI M a i.toNat))) hx hb g3 ((hKK.2 0 _ rfl).1 _ _) (fun q => by cases q) (by rw [arrV_size]; exact i32_in hi g2) (by rw [i32_clamp hi3, arrV_read _ _ (by omega)]; rfl) rfl rfl hd kk) h
theorem gg_CA_13 {a : Nat} (hy : y.1.cls = "ChanceArena") (hd : decode y.2.1 pc = .ok (.getfield 13, 3)) (hK : mK M a = 1) (h : mGo G y d L M (pc + 3) (vi (mI M a 1) :: st) pc9 st9) : mGo G y d L M pc (vr a :: st) pc9 st9 := go_get (c := 0) (k := 1) (T := T_CA) (t := t_CA) rfl rfl i_CA (by decide) rfl (by rw [hy]; exact k3_188) hd hK h
theorem gg_CA_34 {a : Nat} (hy : y.1.cls = "ChanceArena") (hd : decode y.2.1 pc = .ok (.getfield 34, 3)) (hK : mK M a = 1) (h : mGo G y d L M (pc + 3) (vr (mR M a 4) :: st) pc9 st9) : mGo G y d L M pc (vr a :: st) pc9 st9 := go_get (c := 0) (k := 4) (T := T_CA) (t := t_CA) rfl rfl i_CA (by decide) rfl (by rw [hy]; exact k3_191) hd hK h
theorem gg_CA_41 {a : Nat} (hy : y.1.cls = "ChanceArena") (hd : decode y.2.1 pc = .ok (.getfield 41, 3)) (hK : mK M a = 1) (h : mGo G y d L M (pc + 3) (vi (mI M a 6) :: st) pc9 st9) : mGo G y d L M pc (vr a :: st) pc9 st9 := go_get (c := 0) (k := 6) (T := T_CA) (t := t_CA) rfl rfl i_CA (by decide) rfl (by rw [hy]; exact k3_193) hd hK h
theorem gg_CA_54 {a : Nat} (hy : y.1.cls = "ChanceArena") (hd : decode y.2.1 pc = .ok (.getfield 54, 3)) (hK : mK M a = 1) (h : mGo G y d L M (pc + 3) (vr (mR M a 9) :: st) pc9 st9) : mGo G y d L M pc (vr a :: st) pc9 st9 := go_get (c := 0) (k := 9) (T := T_CA) (t := t_CA) rfl rfl i_CA (by decide) rfl (by rw [hy]; exact k3_196) hd hK h
theorem gg_CA_70 {a : Nat} (hy : y.1.cls = "ChanceArena") (hd : decode y.2.1 pc = .ok (.getfield 70, 3)) (hK : mK M a = 1) (h : mGo G y d L M (pc + 3) (vr (mR M a 11) :: st) pc9 st9) : mGo G y d L M pc (vr a :: st) pc9 st9 := go_get (c := 0) (k := 11) (T := T_CA) (t := t_CA) rfl rfl i_CA (by decide) rfl (by rw [hy]; exact k3_198) hd hK h
theorem gg_CA_137 {a : Nat} (hy : y.1.cls = "ChanceArena") (hd : decode y.2.1 pc = .ok (.getfield 137, 3)) (hK : mK M a = 13) (h : mGo G y d L M (pc + 3) (vi (mI M a 1) :: st) pc9 st9) : mGo G y d L M pc (vr a :: st) pc9 st9 := go_get (c := 12) (k := 1) (T := T_Fs) (t := t_Fs) rfl rfl i_Fs (by decide) rfl (by rw [hy]; exact k3_177) hd hK h
theorem gg_CA_140 {a : Nat} (hy : y.1.cls = "ChanceArena") (hd : decode y.2.1 pc = .ok (.getfield 140, 3)) (hK : mK M a = 6) (h : mGo G y d L M (pc + 3) (vi (mI M a 3) :: st) pc9 st9) : mGo G y d L M pc (vr a :: st) pc9 st9 := go_get (c := 5) (k := 3) (T := T_Pr) (t := t_Pr) rfl rfl i_Pr (by decide) rfl (by rw [hy]; exact k2_35) hd hK h
theorem gg_CA_160 {a : Nat} (hy : y.1.cls = "ChanceArena") (hd : decode y.2.1 pc = .ok (.getfield 160, 3)) (hK : mK M a = 7) (h : mGo G y d L M (pc + 3) (vi (mI M a 0) :: st) pc9 st9) : mGo G y d L M pc (vr a :: st) pc9 st9 := go_get (c := 6) (k := 0) (T := T_Ga) (t := t_Ga) rfl rfl i_Ga (by decide) rfl (by rw [hy]; exact k2_138) hd hK h
theorem gg_Ga_21 {a : Nat} (hy : y.1.cls = "ChanceArena$Game") (hd : decode y.2.1 pc = .ok (.getfield 21, 3)) (hK : mK M a = 7) (h : mGo G y d L M (pc + 3) (vr (mR M a 4) :: st) pc9 st9) : mGo G y d L M pc (vr a :: st) pc9 st9 := go_get (c := 6) (k := 4) (T := T_Ga) (t := t_Ga) rfl rfl i_Ga (by decide) rfl (by rw [hy]; exact k2_149) hd hK h
theorem gg_Ga_55 {a : Nat} (hy : y.1.cls = "ChanceArena$Game") (hd : decode y.2.1 pc = .ok (.getfield 55, 3)) (hK : mK M a = 7) (h : mGo G y d L M (pc + 3) (vi (mI M a 0) :: st) pc9 st9) : mGo G y d L M pc (vr a :: st) pc9 st9 := go_get (c := 6) (k := 0) (T := T_Ga) (t := t_Ga) rfl rfl i_Ga (by decide) rfl (by rw [hy]; exact k2_134) hd hK h
end GO
end
section
/-! Methods that may throw: a contract over both ends (xM), the throw itself, a call in a method with handlers. -/
section Throws
variable {p : Program} {l : Launch} {e : Env} {R : Room} {s : State} {m : MethodId} {args : Array Value} {below : List Frame} {meth : Method} {c : Code} {H : Heap} {locs : List Loc} {cells slots : Nat} {Q : State → Prop}
def xM (l : Launch) (y : MethodName) (ws : List Cond) (rm : Room) (Pc : Array Value → State → Prop) (Qc : Array Value → State → Outcome → State → Prop) (mc ms : Nat) (free : Addr → Prop) : Prop :=
  MetFree l y (headSpec ws rm) Pc (fun _ _ _ _ _ => True) (fun a st o t => Qc a st o t ∧ ∃ L, (st.WarmedH t.vm ∧ st.sameButNew ({ t with vm := st.vm } : State) L mc ms) ∧ ∀ q ∈ L, free q.base)
def xQ (below : List Frame) (Qc : Array Value → State → Outcome → State → Prop) (a : Array Value) (s : State) (mc ms : Nat) (free : Addr → Prop) : State → Prop := fun t =>
  ∃ o, t.status = .running ∧ Ended t below o ∧ Qc a s o t ∧ ∃ L, (s.WarmedH t.vm ∧ s.sameButNew ({ t with vm := s.vm } : State) L mc ms) ∧ ∀ q ∈ L, free q.base
theorem xOfW {y : MethodName} {ws ws' : List Cond} {rm : Room} {Pc : Array Value → State → Prop} {Qc : Array Value → State → Outcome → State → Prop} {mc ms : Nat} {free : Addr → Prop} {cc : ByteArray} {maxL : Nat} {ret : Option FieldType}
    (hy : plainName y.cls = true) (hw : ws = Cond.code y cc maxL ret :: ws')
    (body : ∀ p e s m args below meth c s₁, BodyLoose p l y (headSpec ws rm) cc maxL ret e s m args below meth c s₁ → c.maxLocals = maxL → Pc args s →
      W p l e (headSpec ws rm).room s m args below meth c s.heap [] 0 0 (xQ below Qc args s mc ms free) (entryFrame m args maxL)) : xM l y ws rm Pc Qc mc ms free := by
  refine MetFree.of_bodyS (code := cc) (maxLocals := maxL) (ret := ret) hy ?_ ?_
  · intro args s m h hn
    obtain ⟨meth, c, h1, h2, h3, h4, h5, h6, -, -⟩ := Cond.code_spec hn (atoms_spec (ws := ws) h _ (by rw [hw]; exact List.mem_cons_self))
    exact ⟨meth, c, h1, h2, h3, h4, h5, h6⟩
  · intro p e s m args below meth c s₁ B hml hP _
    have hh0 : s₁.heap = s.heap := by rw [B.state]; rfl
    obtain ⟨t, a1, o, b1, b2, b3⟩ := body p e s m args below meth c s₁ B hml hP s₁ hh0 (Stand.of_body B)
    exact ⟨t, o, a1, b1, b2, ⟨b3.1, b3.2⟩⟩
/-- new, dup, <init>, athrow: the method throws; nothing was written before -/
theorem xThrow {cc : ByteArray} {Qc : Array Value → State → Outcome → State → Prop} {free : Addr → Prop} {own cls : String} {names : List String} {ic ix pc nL : Nat} {ls : Array Slot} (hexec : p.tables.exec = Jvm.exec) (hb : c.code = cc) (htr : e.platform.stackTraces = false) (hml : c.maxLocals = nL) (hls : ls.size = nL)
    (hown : s.vm.findClass own = some m.cls) (hlocks : meth.locks = false) (hcls : Bundle.fit cls = true) (hnames : ∀ n ∈ names, Bundle.fit n = true) (h : ∀ a ∈ Bundle.ownAtoms0 own ic cls names, a.before args s = true)
    (hclink : (Cond.classLink own ix cls).before args s = true) (hini : (Cond.initialized cls).before args s = true) (hout : ∀ x ∈ c.exceptionTable.toList, covers x (pc + 7) = false) (hsz : s.heap.size ≤ H.size)
    (hd0 : decode cc pc = .ok (.new ix, 3)) (hd3 : decode cc (pc + 3) = .ok (.dup, 1)) (hd4 : decode cc (pc + 4) = .ok (.invokespecial ic, 3)) (hd7 : decode cc (pc + 7) = .ok (.athrow, 1))
    (hcells : cells + 1 ≤ R.cells) (hslots : slots + 6 ≤ R.slots) (hRf : names.length + 3 < R.frames) (hRl : 8 + (13 * (names.length + 1) + 41) ≤ R.locals)
    (hq : ∀ (t : State) (ce : Cell), t.heap[H.size]? = some ce → ce.vm = .none → s.vm.findClass cls = some ce.cls → (∀ (q : Nat) (c0 : Cell), s.heap[q]? = some c0 → t.heap[q]? = some c0) → t.heap.size ≤ s.heap.size + (cells + 1) → s.WarmedH t.vm → Qc args s (.threw H.size) t) :
    W p l e R s m args below meth c H [] cells slots (xQ below Qc args s (cells + 1) (slots + 6) free) (F0 m pc ls []) := by
  refine W.newc hexec hb hown hclink (h (.instantiable cls 6) (by simp [Bundle.ownAtoms0])) hini rfl hd0 hcells hslots (fun cC kC h1 h2 h3 h4 => ?_)
  refine lv_dup hexec hb hd3 rfl ?_
  intro T hT X
  obtain ⟨U, st, hrun, hend, hW, hsame, ce, hce, hoc⟩ := X.ctorThrow0 hexec htr hown hcls hnames h (by simp) (a := H.size) h1 h2 (by rw [hT]; simp) hsz (g := F0 m (pc + 3 + 1) ls [.ref H.size, .ref H.size]) rfl (by rw [hml]; exact hls) rfl rfl (rest := []) rfl (by rw [hb]; exact hd4) (by rw [hb]; exact hd7) hout hRf (by
    have h9 : 2 * (F0 m (pc + 3 + 1) ls [Value.ref H.size, Value.ref H.size]).monitorRoom + (([Value.ref H.size] : List Value).map fun v => v.category).sum ≤ 8 := lv_room (Nat.le_of_ble_eq_true rfl)
    omega) hlocks
  exact ⟨U, st, .threw H.size, hrun, hend, hq U ce hce hoc.vm hoc.cls (fun q c0 hq => hsame.old_cell hq) hsame.2.2.1 hW, [], ⟨hW, hsame⟩, by simp⟩
end Throws
section Catches
variable {p : Program} {l : Launch} {e : Env} {R : Room} {s : State} {m : MethodId} {args : Array Value} {below : List Frame} {meth : Method} {c : Code} {H : Heap} {locs : List Loc} {cells slots : Nat} {Q : State → Prop}
/-- a call that comes back or throws -/
theorem xCallV {y : MethodName} {bytes cc : ByteArray} {maxL nL mc ms n index pc : Nat} {ret : Option FieldType} {ws : List Cond} {rm : Room} {Pc : Array Value → State → Prop} {Qc : Array Value → State → Outcome → State → Prop} {free : Addr → Prop} {Ts : List Cond} {own C : String} {b : Addr} {As rest : List Value} {ls : Array Slot}
    (S : CallFix p m c cc nL s args Ts own) (hM : xM l y ws rm Pc Qc mc ms free) (cw : CallW R s args own C index y bytes maxL ret ws rm mc ms n) (hp : PreV s H C b Pc As)
    (hn : As.length = n) (hsize : ls.size = nL) (hWr : 2 * (F0 m pc ls rest).monitorRoom + (rest.map fun v => v.category).sum ≤ 8) (hdg : decode cc pc = .ok (.invokevirtual index, 3)) (hf : cells + mc ≤ R.cells ∧ slots + ms ≤ R.slots)
    (kr : ∀ (v : Option Value) (st₀ t : State) (L : List Loc), st₀.heap = H → s.WarmedH st₀.vm → (∀ q ∈ L, free q.base) → s.WarmedH t.vm → Qc (Value.ref b :: As).toArray st₀ (.returned v) t → W p l e R s m args below meth c t.heap (locs ++ L) (cells + mc) (slots + ms) Q (F0 m (pc + 3) ls (v.toList ++ rest)))
    (kt : ∀ (x : Addr) (st₀ t : State) (L : List Loc), st₀.heap = H → s.WarmedH st₀.vm → (∀ q ∈ L, free q.base) → s.WarmedH t.vm → Qc (Value.ref b :: As).toArray st₀ (.threw x) t → ∀ T' : State, T'.heap = t.heap → Stand p l e R s m args below meth c T' (locs ++ L) (cells + mc) (slots + ms) → ∃ tt, Steps p.tables e below ((T'.setTop (F0 m pc ls rest)).pushFrame (.throwing x)) tt ∧ Q tt) :
    W p l e R s m args below meth c H locs cells slots Q (F0 m pc ls (As.reverse ++ .ref b :: rest)) := by
  obtain ⟨hexec, hb, hml, hown, hts⟩ := S
  obtain ⟨⟨hrc, hrs, hfr, hlo, hws, hcw, hcode, hini, hy, hlen, hlink⟩, hinst, hsel⟩ := cw
  obtain ⟨hbl, ⟨cellB, hcell, hobj, hcls⟩, hPc⟩ := hp
  intro T hT X
  obtain ⟨mk, methM, hnamed, hmethM, hstM, habM⟩ := Cond.instanceMethod_spec hinst
  obtain ⟨methM', cM, hmethM', -, -, -, -, -, -, hsigM⟩ := Cond.code_spec hnamed hcode
  cases hmethM.symm.trans hmethM'
  obtain ⟨c2, r2, m2, q1, q2, q3, q4, kP, hkP, hkPi⟩ := Cond.selects_spec hsel
  cases hcls.symm.trans q1
  cases (State.methodFound?_of_named hnamed hy).symm.trans q2
  cases hnamed.symm.trans q3
  have hselP : selectMethod e.platform s.vm cellB.cls mk = .method mk := by rw [Launch.admits_selectMethod X.admits]; exact q4
  obtain ⟨vm₁, X₁, hstep₁⟩ := X.invokevirtual hexec hown hlink hnamed hmethM hstM hkP hkPi hy (a := b) (cell := cellB) (by rw [hT]; exact hcell)
    (fun z h => by rw [h] at hobj; cases hobj) hselP hmethM habM hkP hkPi (g := F0 m pc ls (As.reverse ++ .ref b :: rest)) rfl (argsL := As) (rest := rest) (by rw [hn]; exact hlen _ hsigM) rfl (by rw [hb]; exact hdg)
  have hUh : (T.setVm vm₁).heap = H := hT
  generalize T.setVm vm₁ = U at X₁ hstep₁ hUh
  have hnU := X₁.named hnamed
  have hcU : (Cond.code y bytes maxL ret).before (Value.ref b :: As).toArray U = true := hws _ hcw _ _ X₁.warmed
  have hiU : (Cond.initialized y.cls).before (Value.ref b :: As).toArray U = true := word_at X₁.warmed (Or.inl (by first | rfl | simp [Cond.onTables, Cond.keeps, Cond.steady])) hini
  obtain ⟨methY, cY, hmY, hcY, -, hlY, -, -, -, -⟩ := Cond.code_spec hnU hcU
  obtain ⟨kY, hkY, -⟩ := className_of_methodNamed hnU
  have hinitY : kY.init = .initialized := Cond.initialized_spec (findClass_of_methodNamed hnU) hkY hiU
  have hAt : At U (F0 m pc ls rest).method c below := X₁.here
  have hdg' : decode c.code (F0 m pc ls rest).pc = .ok (.invokevirtual index, 3) := by rw [hb]; exact hdg
  have happ : (headSpec ws rm).appliesLoose y e.platform (U.calling (F0 m pc ls rest) mk (Value.ref b :: As).toArray) = true :=
    Spec.appliesLoose_calling (g := F0 m pc ls rest) hAt hdg' hnU hkY hinitY
      (X₁.room_calling (g := F0 m pc ls rest) (R' := rm) (by rw [hml]; exact hsize) hmY hcY hfr (by rw [hlY]; have h9 : 2 * (F0 m pc ls rest).monitorRoom + ((F0 m pc ls rest).stack.map fun v => v.category).sum ≤ 8 := hWr; omega) (by rw [hrc]; exact hf.1) (by rw [hrs]; exact hf.2)) (atoms_intro fun w hw => hws w hw _ _ X₁.warmed)
  obtain ⟨mid, hmid⟩ := hAt.above
  have hfr9 : (U.setTop (F0 m pc ls rest)).frames = (.java (F0 m pc ls rest) :: mid) ++ below := by rw [State.frames_setTop' _ hAt.top, hmid]; rfl
  obtain ⟨o, s₂, hsteps, -, hend, hq⟩ := Steps.callFree hM p X₁.admits X₁.cas X₁.clock (acts := []) hfr9 happ (hbl _ _ _ _ (hPc U hUh X₁.warmed)) trivial
  rw [State.frames_setTop' _ hAt.top, X₁.tail] at hend
  obtain ⟨hqc, L, ⟨hW2, hsame⟩, hL⟩ := hq
  have hw2 : s.WarmedH s₂.vm := State.WarmedH.trans X₁.warmed hW2
  have hst0 : (U.calling (F0 m pc ls rest) mk (Value.ref b :: As).toArray).heap = H := hUh
  have run : ∀ tg, Steps p.tables e below s₂ tg → Steps p.tables e below (T.setTop (F0 m pc ls (As.reverse ++ .ref b :: rest))) tg := fun tg h => hstep₁ _ fun acts => by rw [doInvoke_state]; exact hsteps.trans h
  cases o with
  | returned v =>
    obtain ⟨T', X', hw', -, he⟩ := X₁.outOf (g := F0 m pc ls rest) rfl hdg' hend hW2 hsame
    have hTt : T'.heap = s₂.heap := by rw [he]; rfl
    obtain ⟨t, a1, b1⟩ := kr v _ s₂ L hst0 X₁.warmed hL hw2 hqc T' hTt X'
    exact ⟨t, run _ (by rw [he]; exact a1), b1⟩
  | threw x =>
    obtain ⟨T', X', hw', -, he⟩ := X₁.outOfThrown (g := F0 m pc ls rest) rfl hend hW2 hsame
    have hTt : T'.heap = s₂.heap := by rw [he]; rfl
    obtain ⟨t, a1, b1⟩ := kt x _ s₂ L hst0 X₁.warmed hL hw2 hqc T' hTt X'
    exact ⟨t, run _ (by rw [he]; exact a1), b1⟩
end Catches
/-! What a throw asks of two statics of Throwable: they lie in a cell that nobody here writes. -/
/-- the static C.n : d holds null or a reference, in a cell below lim -/
def zS (C n d : String) (lim : Nat) (U : State) (H : Heap) : Prop := ∃ (c : ClassId) (k : Class) (i : Nat) (f : Field) (a : Nat) (cell : Cell) (v : Value), U.vm.findClass C = some c ∧ U.fieldFound? C n d = some (c, k, i, f) ∧ f.isStatic = true ∧ k.statics = some a ∧ H[a]? = some cell ∧ cell.vm.isStatics = true ∧ cell.cls = c ∧ f.slot < cell.slots.size ∧ k.staticTypes[f.slot]? = some f.type ∧ cell.slots[f.slot]? = some v ∧ v.isRef = true ∧ a < lim
theorem zS.moved {C n d : String} {lim : Nat} {u U : State} {H : Heap} (hvm : u.vm.Alike U.vm) (h : zS C n d lim u H) : zS C n d lim U H := by
  obtain ⟨c, k, i, f, a, cell, v, h1, h2, h3, h4, h5, h6, h7, h8, h9, h10⟩ := h
  obtain ⟨k9, hi9, he⟩ := State.fieldFound?_setVm hvm h2
  exact ⟨c, k9, i, f, a, cell, v, by rw [hvm.findClass]; exact h1, hi9, h3, by rw [he]; exact h4, h5, h6, h7, h8, by rw [he]; exact h9, h10⟩
theorem zS.kept {C n d : String} {lim : Nat} {U : State} {H H1 : Heap} (h : zS C n d lim U H) (hq : ∀ a : Nat, a < lim → H1[a]? = H[a]?) : zS C n d lim U H1 := by
  obtain ⟨c, k, i, f, a, cell, v, h1, h2, h3, h4, h5, h6, h7, h8, h9, h10, h11, h12⟩ := h
  exact ⟨c, k, i, f, a, cell, v, h1, h2, h3, h4, by rw [hq a h12]; exact h5, h6, h7, h8, h9, h10, h11, h12⟩
theorem zS.lays {C n d : String} {lim : Nat} {s : State} {args : Array Value} (h : zS C n d lim s s.heap) : (Cond.laysStatic C n d).before args s = true := by
  obtain ⟨c, k, i, f, a, cell, v, h1, h2, h3, h4, h5, h6, h7, h8, h9, -⟩ := h
  show (Cond.laysStatic C n d).holds args s none s [] = true
  exact Cond.laysStatic_of h1 h2 h3 h4 h5 h6 h7 h8 h9
theorem zS.isRef {C n d : String} {lim : Nat} {s : State} {args : Array Value} (h : zS C n d lim s s.heap) : (Cond.isRef (.static C n d)).before args s = true := by
  obtain ⟨c, k, i, f, a, cell, v, h1, h2, h3, h4, h5, h6, h7, h8, h9, h10, h11, -⟩ := h
  have he : (Term.static C n d).eval args s none [] s = some v := by
    simp [Term.eval, State.fieldNamed?, h2, h3, h4, h5, h6, h10]
  simp only [Cond.before, Cond.holds, Cond.value, he]
  cases v <;> simp_all [Value.isRef]
theorem zS.of {C n d : String} {s : State} {args : Array Value} (hl : (Cond.laysStatic C n d).before args s = true) (h : (Cond.isRef (.static C n d)).before args s = true) : zS C n d s.heap.size s s.heap := by
  obtain ⟨c, k, i, f, a, cell, h1, h2, h3, h4, h5, h6, h7, h8, h9⟩ := Cond.laysStatic_spec hl
  cases hv : (Term.static C n d).eval args s none [] s with
  | none => simp [Cond.before, Cond.holds, Cond.value, hv] at h
  | some v =>
    obtain ⟨hst9, a9, cell9, ha9, hcell9, -, hslot⟩ := Term.static_spec h2 hv
    cases h4.symm.trans ha9
    cases h5.symm.trans hcell9
    refine ⟨c, k, i, f, a, cell, v, h1, h2, h3, h4, h5, h6, h7, h8, h9, hslot, ?_, (Array.getElem?_eq_some_iff.mp h5).1⟩
    simp only [Cond.before, Cond.holds, Cond.value, hv] at h
    cases v <;> simp_all [Value.isRef]
/-- both statics -/
def zS2 (lim : Nat) (U : State) (H : Heap) : Prop := zS Bundle.tN "UNASSIGNED_STACK" Bundle.steD lim U H ∧ zS Bundle.tN "SUPPRESSED_SENTINEL" Bundle.listD lim U H
theorem zS2.moved {lim : Nat} {u U : State} {H : Heap} (hvm : u.vm.Alike U.vm) (h : zS2 lim u H) : zS2 lim U H := ⟨h.1.moved hvm, h.2.moved hvm⟩
theorem zS2.kept {lim : Nat} {U : State} {H H1 : Heap} (h : zS2 lim U H) (hq : ∀ a : Nat, a < lim → H1[a]? = H[a]?) : zS2 lim U H1 := ⟨h.1.kept hq, h.2.kept hq⟩
def zSpec : List Cond := [.isRef (.static Bundle.tN "UNASSIGNED_STACK" Bundle.steD), .isRef (.static Bundle.tN "SUPPRESSED_SENTINEL" Bundle.listD), .laysStatic Bundle.tN "UNASSIGNED_STACK" Bundle.steD, .laysStatic Bundle.tN "SUPPRESSED_SENTINEL" Bundle.listD]
theorem zS2.words {lim : Nat} {s : State} {args : Array Value} (h : zS2 lim s s.heap) : ∀ w ∈ zSpec, w.before args s = true := by
  intro w hw
  simp only [zSpec, List.mem_cons, List.not_mem_nil, or_false] at hw
  rcases hw with rfl | rfl | rfl | rfl
  · exact h.1.isRef
  · exact h.2.isRef
  · exact h.1.lays
  · exact h.2.lays
abbrev zRun2 : List String := ["java/lang/RuntimeException", "java/lang/Exception"]
theorem zA_spl {L : List Cond} {w : Cond} (h : w ∈ L) : w ∈ L.take 24 ++ (L.drop 29).take 10 ∨ w ∈ (L.drop 24).take 5 ++ L.drop 39 := by
  rw [← List.take_append_drop 24 L] at h
  rcases List.mem_append.mp h with h | h
  · exact Or.inl (List.mem_append_left _ h)
  rw [← List.take_append_drop 5 (L.drop 24)] at h
  rcases List.mem_append.mp h with h | h
  · exact Or.inr (List.mem_append_left _ h)
  have h2 : w ∈ L.drop 29 := by rw [List.drop_drop] at h; exact h
  rw [← List.take_append_drop 10 (L.drop 29)] at h2
  rcases List.mem_append.mp h2 with h2 | h2
  · exact Or.inl (List.mem_append_right _ h2)
  · exact Or.inr (List.mem_append_right _ (by rw [List.drop_drop] at h2; exact h2))
def zCh : List (List Cond) := [zSpec, tables_1_1, tables_1_2, tables_1_3, tables_1_4, tables_1_5, tables_1_6, tables_1_7, tables_1_8, tables_1_9, tables_1_10, tables_1_11, tables_1_12, tables_1_13, tables_1_14]
theorem zCh_sub : ∀ c ∈ zCh, ∀ w ∈ c, w ∈ zSpec ∨ w ∈ tables_1 := List.forall_mem_cons.mpr ⟨fun w h => Or.inl h, List.forall_mem_cons.mpr ⟨fun w h => Or.inr (tz_1 w h), List.forall_mem_cons.mpr ⟨fun w h => Or.inr (tz_2 w h), List.forall_mem_cons.mpr ⟨fun w h => Or.inr (tz_3 w h), List.forall_mem_cons.mpr ⟨fun w h => Or.inr (tz_4 w h), List.forall_mem_cons.mpr ⟨fun w h => Or.inr (tz_5 w h), List.forall_mem_cons.mpr ⟨fun w h => Or.inr (tz_6 w h), List.forall_mem_cons.mpr ⟨fun w h => Or.inr (tz_7 w h), List.forall_mem_cons.mpr ⟨fun w h => Or.inr (tz_8 w h), List.forall_mem_cons.mpr ⟨fun w h => Or.inr (tz_9 w h), List.forall_mem_cons.mpr ⟨fun w h => Or.inr (tz_10 w h), List.forall_mem_cons.mpr ⟨fun w h => Or.inr (tz_11 w h), List.forall_mem_cons.mpr ⟨fun w h => Or.inr (tz_12 w h), List.forall_mem_cons.mpr ⟨fun w h => Or.inr (tz_13 w h), List.forall_mem_cons.mpr ⟨fun w h => Or.inr (tz_14 w h), fun c h => absurd h List.not_mem_nil⟩⟩⟩⟩⟩⟩⟩⟩⟩⟩⟩⟩⟩⟩⟩
def zTk (q : Nat × Nat) : Option Cond := (zCh[q.1]?).bind (fun c => c[q.2]?)
theorem zTk_mem {q : Nat × Nat} {w : Cond} (h : zTk q = some w) : w ∈ zSpec ∨ w ∈ tables_1 := by
  unfold zTk at h
  cases e : zCh[q.1]? with
  | none => rw [e] at h; simp at h
  | some c => rw [e] at h; exact zCh_sub c (List.mem_of_getElem? e) w (List.mem_of_getElem? h)
theorem zTk_all {L : List Cond} (I : List (Nat × Nat)) (h : L.map some = I.map zTk) (hr : ∀ w ∈ L, w ∈ zSpec ∨ zRide w = true) : ∀ w ∈ L, w ∈ zSpec ∨ (w ∈ tables_1 ∧ zRide w = true) := by
  intro w hw
  have e : some w ∈ I.map zTk := by rw [← h]; exact List.mem_map.mpr ⟨w, hw, rfl⟩
  obtain ⟨q, -, hq⟩ := List.mem_map.mp e
  rcases zTk_mem hq with g | g
  · exact Or.inl g
  · exact (hr w hw).imp id (fun r => ⟨g, r⟩)
def zL_A : List Cond := Bundle.ownAtoms0 "ChanceArena" 119 "java/lang/IllegalArgumentException" zRun2
def zL_S : List Cond := Bundle.ownAtoms0 "ChanceArena" 151 "java/lang/IllegalStateException" zRun2
def zL_I : List Cond := Bundle.ownAtoms0 "ChanceArena" 169 "java/lang/IndexOutOfBoundsException" zRun2
set_option maxRecDepth 100000 in
theorem zA_com : ∀ w ∈ zL_A.take 24 ++ (zL_A.drop 29).take 10, w ∈ zSpec ∨ (w ∈ tables_1 ∧ zRide w = true) := zTk_all [(1, 22), (6, 40), (6, 49), (6, 54), (6, 57), (6, 59), (6, 41), (6, 42), (1, 46), (1, 47), (6, 43), (6, 48), (6, 55), (7, 20), (6, 30), (7, 21), (6, 32), (7, 22), (6, 34), (6, 44), (0, 2), (6, 46), (0, 3), (6, 36), (7, 197), (7, 198), (7, 199), (7, 200), (6, 23), (7, 200), (7, 201), (7, 202), (6, 41), (6, 25)] (by decide +kernel) (by decide +kernel)
set_option maxRecDepth 100000 in
theorem zA_xA : ∀ w ∈ (zL_A.drop 24).take 5 ++ zL_A.drop 39, w ∈ zSpec ∨ (w ∈ tables_1 ∧ zRide w = true) := zTk_all [(7, 194), (7, 195), (7, 196), (7, 197), (6, 21), (7, 193), (6, 19), (6, 20), (6, 27), (6, 28), (6, 29), (6, 31), (6, 33), (6, 35), (0, 0), (0, 1), (6, 39), (6, 38), (6, 37)] (by decide +kernel) (by decide +kernel)
theorem zA_IAE : ∀ w ∈ Bundle.ownAtoms0 "ChanceArena" 119 "java/lang/IllegalArgumentException" zRun2, w ∈ zSpec ∨ (w ∈ tables_1 ∧ zRide w = true) := fun w hw => (zA_spl (L := zL_A) hw).elim (fun h => zA_com w h) (zA_xA w)
set_option maxRecDepth 100000 in
theorem zA_xS : ∀ w ∈ (zL_S.drop 24).take 5 ++ zL_S.drop 39, w ∈ zSpec ∨ (w ∈ tables_1 ∧ zRide w = true) := zTk_all [(7, 221), (7, 222), (7, 223), (7, 197), (6, 21), (7, 220), (7, 212), (7, 213), (7, 214), (6, 52), (7, 215), (7, 216), (7, 217), (7, 218), (0, 0), (0, 1), (6, 39), (6, 38), (7, 219)] (by decide +kernel) (by decide +kernel)
set_option maxRecDepth 100000 in
theorem zA_eS : zL_S.take 24 ++ (zL_S.drop 29).take 10 = zL_A.take 24 ++ (zL_A.drop 29).take 10 := by decide +kernel
theorem zA_ISE : ∀ w ∈ Bundle.ownAtoms0 "ChanceArena" 151 "java/lang/IllegalStateException" zRun2, w ∈ zSpec ∨ (w ∈ tables_1 ∧ zRide w = true) := fun w hw => (zA_spl (L := zL_S) hw).elim (fun h => zA_com w (by rw [zA_eS] at h; exact h)) (zA_xS w)
set_option maxRecDepth 100000 in
theorem zA_xI : ∀ w ∈ (zL_I.drop 24).take 5 ++ zL_I.drop 39, w ∈ zSpec ∨ (w ∈ tables_1 ∧ zRide w = true) := zTk_all [(8, 57), (8, 58), (8, 59), (7, 197), (6, 21), (8, 56), (8, 48), (8, 49), (8, 50), (6, 53), (8, 51), (8, 52), (8, 53), (8, 54), (0, 0), (0, 1), (6, 39), (6, 38), (8, 55)] (by decide +kernel) (by decide +kernel)
set_option maxRecDepth 100000 in
theorem zA_eI : zL_I.take 24 ++ (zL_I.drop 29).take 10 = zL_A.take 24 ++ (zL_A.drop 29).take 10 := by decide +kernel
theorem zA_IOB : ∀ w ∈ Bundle.ownAtoms0 "ChanceArena" 169 "java/lang/IndexOutOfBoundsException" zRun2, w ∈ zSpec ∨ (w ∈ tables_1 ∧ zRide w = true) := fun w hw => (zA_spl (L := zL_I) hw).elim (fun h => zA_com w (by rw [zA_eI] at h; exact h)) (zA_xI w)
end
section
/-! The eight methods of the class that throw: nothing has changed but that an exception was made (kind 50: nobody looks into it). -/
def mQt (G : mG) (M : mM) (cls : String) : Array Value → State → Outcome → State → Prop := fun _ st oc t => ∃ (a : Nat) (ce : Cell), oc = .threw a ∧ t.heap[a]? = some ce ∧ ce.vm = .none ∧ st.vm.findClass cls = some ce.cls ∧ mRep G (mNew M 50 0 6) t.heap
/-- a call of y throws an exception of the class cls -/
def mCt (G : mG) (y : mY) (d : Nat) (args : List mV) (M : mM) (cls : String) : Prop := xM (gL G) y.1 (zW (yC y)) { frames := d, cells := 1, slots := 6, locals := 64 * d } (va_Pc (args.map mcv) (mPre G M)) (mQt G M cls) 1 6 (mOwn G)
/-- what a throw asks of the launch and of the law's start -/
def TH (G : mG) : Prop := (gL G).stackTraces = false ∧ zS2 (gB G) (gS G) (gS G).heap
section THR
variable {G : mG} {y : mY} {d pc : Nat} {L : List mV} {M : mM} {H H1 : Heap}
theorem mRep.threw (hR : mRep G M H) (hk : ∀ (q : Nat) (c0 : Cell), H[q]? = some c0 → H1[q]? = some c0) (hs : H1.size = H.size + 1) : mRep G (mNew M 50 0 6) H1 := by
  have k : mK (mNew M 50 0 6) (mZ M) = 50 := by rw [mK_New, if_pos rfl]
  refine hR.new hs (fun q hq => ?_) ⟨fun c r t hK hc ht => ?_, fun t ty hK hty => ?_, fun hK => ?_⟩
  · have e : H[q]? = some H[q] := Array.getElem?_eq_getElem hq
    rw [e]
    exact hk q _ e
  · rw [k] at hK
    have : c = 49 := by omega
    subst this
    cases hc
  · rw [k] at hK
    have : t = 20 := by omega
    subst this
    cases hty
  · rw [k] at hK
    cases hK
theorem mCt.of {cls : String} {ic ix : Nat} {args : List mV} (hT : TH G) (hy : y.1.cls = "ChanceArena") (hlen : (mEnt args).length ≤ y.2.2.1) (hL : mEnt args ++ List.replicate (y.2.2.1 - (mEnt args).length) vd = L) (hcls : Bundle.fit cls = true) (hat : ∀ w ∈ Bundle.ownAtoms0 "ChanceArena" ic cls zRun2, w ∈ zSpec ∨ (w ∈ tables_1 ∧ zRide w = true)) (k1 : Cond.classLink "ChanceArena" ix cls ∈ lw_R) (k2 : Cond.initialized cls ∈ lw_R)
    (hd0 : decode y.2.1 pc = .ok (.new ix, 3)) (hd3 : decode y.2.1 (pc + 3) = .ok (.dup, 1)) (hd4 : decode y.2.1 (pc + 4) = .ok (.invokespecial ic, 3)) (hd7 : decode y.2.1 (pc + 7) = .ok (.athrow, 1)) (h6 : 6 ≤ d) (go : mGo G y d L M 0 [] pc []) : mCt G y d args M cls := by
  refine xOfW (cc := y.2.1) (maxL := y.2.2.1) (ret := y.2.2.2) (by rw [hy]; rfl) rfl ?_
  intro p e s m args9 below meth c s₁ B hml hv
  obtain ⟨rfl, hRep, hK, hh, hal⟩ := hv
  have hl := lv_entry (args.map mcv) (n := y.2.2.1) (by rw [mEnt_len]; exact hlen)
  rw [lg_entry_eq]
  generalize (lg_sl (args.map mcv) ++ List.replicate (y.2.2.1 - (lg_sl (args.map mcv)).length) Slot.unset).toArray = ls at hl ⊢
  have hLs : mLs ls y.2.2.1 L := by
    refine ⟨hl.1, hl.2.1, fun i v hi hv => ?_⟩
    rw [← hL] at hi
    by_cases q : i < (mEnt args).length
    · rw [List.getElem?_append_left q] at hi
      have := mEnt_args args 0 i v hi hv
      rw [Nat.zero_add] at this
      exact hl.2.2 _ this
    · rw [List.getElem?_append_right (by omega)] at hi
      have := List.mem_of_getElem? hi
      rw [List.eq_of_mem_replicate this] at hv
      cases hv
  have ht : ∀ x ∈ c.exceptionTable.toList, False := by
    obtain ⟨meth9, c9, h1, h2, -, -, -, -, h7, -⟩ := Cond.code_spec B.named (atoms_spec (ws := zW (yC y)) B.pre _ List.mem_cons_self)
    cases Option.some.inj (h1.symm.trans B.method)
    cases Option.some.inj (h2.symm.trans (Stand.of_body B).code)
    intro x hx
    rw [Array.isEmpty_iff.mp h7] at hx
    cases hx
  have hpl : e.platform.stackTraces = false := by rw [(Stand.of_body B).admits.platform]; exact hT.1
  have h2 : zS2 (gB G) s s.heap := (hT.2.moved hal.1).kept (fun a ha => hRep.2.2.2.2.1 a ha)
  refine go p e (headSpec (zW (yC y)) { frames := d, cells := 1, slots := 6, locals := 64 * d }).room s m (args.map mcv).toArray below meth c s.heap [] 0 0 ls _ ⟨B.exec, B.bytes, hml, B.returns, B.notSynchronized, (name_of_methodNamed B.named B.method).1, findClass_of_methodNamed B.named, hK, hh.use _, hh, hal, Nat.le_refl _, Nat.le_refl _⟩ hRep hLs (Nat.zero_le _) (Nat.zero_le _) ?_
  refine xThrow (cells := 0) (slots := 0) (names := zRun2) B.exec B.bytes hpl hml hLs.1 (own := "ChanceArena") (by rw [← hy]; exact findClass_of_methodNamed B.named) B.notSynchronized hcls (by decide) (fun w hw => (hat w hw).elim (fun h => h2.words w h) (fun h => hh.use _ w (zR (List.mem_append_right _ h.1) h.2))) (hh.use _ _ k1) (hh.use _ _ k2) (fun x h => absurd (ht x h) id) (Nat.le_refl _) hd0 hd3 hd4 hd7 (Nat.le_refl _) (Nat.le_refl _) (by show 2 + 3 < d; omega) (by show 8 + (13 * (2 + 1) + 41) ≤ 64 * d; omega) ?_
  intro t ce q1 q2 q3 q4 q5 q6
  have lt := (Array.getElem?_eq_some_iff.mp q1).1
  exact ⟨s.heap.size, ce, rfl, q1, q2, q3, hRep.threw q4 (by omega)⟩
end THR
end
section
/-! An exception that comes out of a call is caught here: the row's class may be resolved by the search itself. -/
def xFinds (e : Env) (s : State) (f : JFrame) (a : Addr) (h : Handler) (vm9 : Vm) : Prop :=
  ∀ (Q : Handler → Pre) (E : CtlPost) (d : Bool) (acts : List Action), wp (findHandler f a) Q E e d acts s ↔ Q h d acts (s.setVm vm9)
section Go
variable {Q : Handler → Pre} {E : CtlPost} {e : Env} {d : Bool} {acts : List Action} {s : State} {f : JFrame} {a : Addr}
/-- a row that covers the place: its class is resolved; the object is of it, or the search goes on -/
theorem xGo {x : ExceptionTableEntry} {t : List ExceptionTableEntry} {c : ClassId} {cell : Cell} (hx : covers x f.pc = true) (h0 : x.catchType ≠ 0)
    (hl : s.vm.ClassLinks e.platform f.method.cls x.catchType c) (hcell : s.heap[a]? = some cell) (hobj : ∀ k, cell.vm ≠ .statics k)
    (hk : ∃ k, s.vm.classes[cell.cls]? = some k) (hc : ∃ k, s.vm.classes[c]? = some k) {b : Bool} (hfit : s.vm.assignable cell.cls c = b) :
    wp (findHandler.go f a (x :: t)) Q E e d acts s ↔ if b = true then Q (.found x.handlerPc) d acts (s.setVm (s.vm.noted f.method.cls x.catchType (.cls c))) else wp (findHandler.go f a t) Q E e d acts (s.setVm (s.vm.noted f.method.cls x.catchType (.cls c))) := by
  simp only [covers] at hx
  obtain ⟨ha, ht⟩ := (resolveClass_links e.toSetting hl).op (op := VmOp.resolveClass f.method.cls x.catchType) rfl
  have hal : s.vm.Alike (s.vm.noted f.method.cls x.catchType (.cls c)) := (Vm.Alike.refl s.vm).noted _ _ _
  obtain ⟨k1, hk1⟩ := hk
  obtain ⟨k2, hk2⟩ := hc
  obtain ⟨k3, hk3, -⟩ := hal.2.2 _ _ hk1
  obtain ⟨k4, hk4, -⟩ := hal.2.2 _ _ hk2
  have hfit9 : (s.vm.noted f.method.cls x.catchType (.cls c)).assignable cell.cls c = b := by rw [hal.assignable]; exact hfit
  cases b <;> simp [findHandler.go, hx, h0, ha, ht, hcell, hobj, hk3, hk4, hfit9, VmOp.dirties, VmOp.acts]
end Go
theorem xStep {e : Env} {s : State} {a : Addr} {f : JFrame} {r : List Frame} {pc : Nat} {vm9 : Vm} (hfind : xFinds e s f a (.found pc) vm9) :
    (stepThrowing e s a (.java f :: r)).Is ((s.setVm vm9).setFrames (.java { f with pc := pc, stack := [.ref a] } :: r)) [] := by
  simp only [stepThrowing, searchFrame, vmDo]
  generalize hr : Sem.go _ e false [] s = res
  obtain ⟨as, rfl, ha⟩ := Sem.eq_ok_of hr (a := Handler.found pc) (s' := s.setVm vm9) (acts' := []) (by simp [hfind _ _ _ _])
  exact ⟨rfl, ha⟩
theorem xSteps {tb : Tables} {e : Env} {s target : State} {g : JFrame} {c : Code} {below : List Frame} {a : Addr} (h : At s g.method c below) {pc : Nat} {vm9 : Vm}
    (hfind : xFinds e ((s.setTop g).pushFrame (.throwing a)) g a (.found pc) vm9) (hrest : Steps tb e below ((s.setVm vm9).setTop { g with pc := pc, stack := [.ref a] }) target) :
    Steps tb e below ((s.setTop g).pushFrame (.throwing a)) target := by
  obtain ⟨hgo, hw⟩ := h.throwing a
  refine Steps.head hgo hw ?_
  rw [stepThread_throwing (frames_entered h.top _), (xStep (s := (s.setTop g).pushFrame (.throwing a)) hfind).1]
  obtain ⟨g₀, hg⟩ := Option.isSome_iff_exists.mp h.top
  obtain ⟨r, hr⟩ := State.topJava?_eq_some.mp hg
  have hr9 : (s.setVm vm9).frames = .java g₀ :: r := hr
  have hff : ∀ (u : State) (F G : List Frame), ((u.setFrames F).setVm vm9).setFrames G = (u.setVm vm9).setFrames G := fun u F G => by
    have h1 : (u.setFrames F).setVm vm9 = (u.setVm vm9).setFrames F := rfl
    rw [h1, State.setFrames_setFrames]
  rw [State.setTop_of_frames _ hr9] at hrest
  rw [hr, List.tail_cons, State.pushFrame, hff, State.setTop_of_frames _ hr, hff]
  exact hrest
section Caught
variable {p : Program} {l : Launch} {e : Env} {R : Room} {s : State} {m : MethodId} {args : Array Value} {below : List Frame} {meth : Method} {c : Code} {T : State} {H : Heap} {locs : List Loc} {cells slots : Nat} {Q : State → Prop}
/-- the first row takes it -/
theorem xCatch1 {own name E : String} {a pc : Nat} {ls : Array Slot} {rest : List Value} (hown : s.vm.findClass own = some m.cls) (x : ExceptionTableEntry) (more : List ExceptionTableEntry) (hsplit : c.exceptionTable.toList = x :: more) (hx : covers x pc = true) (h0 : x.catchType ≠ 0)
    (hlink : (Cond.classLink own x.catchType name).before args s = true) (hcast : (Cond.castable E name).before args s = true) {ce : Cell} (hcell : H[a]? = some ce) (hv : ce.vm = .none) (hE : s.vm.findClass E = some ce.cls)
    (kk : W p l e R s m args below meth c H locs cells slots Q (F0 m x.handlerPc ls [.ref a])) (hT : T.heap = H) (X : Stand p l e R s m args below meth c T locs cells slots) :
    ∃ t, Steps p.tables e below ((T.setTop (F0 m pc ls rest)).pushFrame (.throwing a)) t ∧ Q t := by
  have hpl : e.platform.magicAccessors = ({} : Platform).magicAccessors := by rw [X.admits.platform]
  obtain ⟨c3, cT, hc3, hcT, hasg⟩ := Cond.castable_spec hcast
  cases hE.symm.trans hc3
  obtain ⟨c4, hc4, hcl⟩ := Cond.classLink_spec hown hlink e.platform hpl
  cases hcT.symm.trans hc4
  obtain ⟨dk, _, _, kt, hd, _, _, _, _, hkt, _, hopen⟩ := hcl.here
  have hcl₀ := X.warmed.classLinks hcl
  have hW9 : s.WarmedH (T.vm.noted m.cls x.catchType (.cls cT)) := X.warmed.noted hd hopen (State.rightAt_cls hcl)
  have hal := X.warmed.alike
  obtain ⟨kt9, hkt9, -⟩ := hal.2.2 _ _ hkt
  have hfit : T.vm.assignable ce.cls cT = true := by rw [hal.assignable]; exact hasg
  obtain ⟨t, a1, b1⟩ := kk (T.setVm (T.vm.noted m.cls x.catchType (.cls cT))) hT (X.noted hW9)
  refine ⟨t, ?_, b1⟩
  refine xSteps (g := F0 m pc ls rest) X.here ?_ a1
  intro Q9 E9 d9 acts9
  rw [Jvm.W.findHandler_eq (meth := meth) (code := c) X.method' X.code, hsplit]
  rw [xGo (s := (T.setTop (F0 m pc ls rest)).pushFrame (.throwing a)) (f := F0 m pc ls rest) (c := cT) (cell := ce) (b := true) hx h0 hcl₀ (by show T.heap[a]? = _; rw [hT]; exact hcell) (VmData.ne_statics_of (by rw [hv]; rfl)) (Vm.classAt_of_assignable hfit ⟨kt9, hkt9⟩) ⟨kt9, hkt9⟩ hfit]
  rw [if_pos rfl]
  exact Iff.rfl
/-- the first row doesn't take it, the second does -/
theorem xCatch2 {own name1 name E : String} {a pc : Nat} {ls : Array Slot} {rest : List Value} (hown : s.vm.findClass own = some m.cls) (x1 x : ExceptionTableEntry) (more : List ExceptionTableEntry) (hsplit : c.exceptionTable.toList = x1 :: x :: more) (hx1 : covers x1 pc = true) (h01 : x1.catchType ≠ 0) (hx : covers x pc = true) (h0 : x.catchType ≠ 0)
    (hlink1 : (Cond.classLink own x1.catchType name1).before args s = true) (hno : va_Nc E name1 s) (hlink : (Cond.classLink own x.catchType name).before args s = true) (hcast : (Cond.castable E name).before args s = true) {ce : Cell} (hcell : H[a]? = some ce) (hv : ce.vm = .none) (hE : s.vm.findClass E = some ce.cls)
    (kk : W p l e R s m args below meth c H locs cells slots Q (F0 m x.handlerPc ls [.ref a])) (hT : T.heap = H) (X : Stand p l e R s m args below meth c T locs cells slots) :
    ∃ t, Steps p.tables e below ((T.setTop (F0 m pc ls rest)).pushFrame (.throwing a)) t ∧ Q t := by
  have hpl : e.platform.magicAccessors = ({} : Platform).magicAccessors := by rw [X.admits.platform]
  obtain ⟨c3, cT, hc3, hcT, hasg⟩ := Cond.castable_spec hcast
  cases hE.symm.trans hc3
  obtain ⟨c4, hc4, hcl⟩ := Cond.classLink_spec hown hlink e.platform hpl
  cases hcT.symm.trans hc4
  obtain ⟨c5, hc5, hcl1⟩ := Cond.classLink_spec hown hlink1 e.platform hpl
  obtain ⟨a8, b8, n1, n2, n3⟩ := hno
  cases n1.symm.trans hE
  cases n2.symm.trans hc5
  obtain ⟨dk1, _, _, kt1, hd1, _, _, _, _, hkt1, _, hopen1⟩ := hcl1.here
  obtain ⟨dk, _, _, kt, hd, _, _, _, _, hkt, _, hopen⟩ := hcl.here
  have hcl₁ := X.warmed.classLinks hcl1
  have hW1 : s.WarmedH (T.vm.noted m.cls x1.catchType (.cls c5)) := X.warmed.noted hd1 hopen1 (State.rightAt_cls hcl1)
  have X1 := X.noted hW1
  have hcl₂ : (T.vm.noted m.cls x1.catchType (.cls c5)).ClassLinks e.platform m.cls x.catchType cT := X1.warmed.classLinks hcl
  have hW2 : s.WarmedH ((T.vm.noted m.cls x1.catchType (.cls c5)).noted m.cls x.catchType (.cls cT)) := X1.warmed.noted hd hopen (State.rightAt_cls hcl)
  obtain ⟨k1, hk1, -⟩ := X.warmed.alike.2.2 _ _ hkt1
  have hal : s.vm.Alike (T.vm.noted m.cls x1.catchType (.cls c5)) := hW1.alike
  obtain ⟨k2, hk2, -⟩ := hal.2.2 _ _ hkt
  have hfit1 : T.vm.assignable ce.cls c5 = false := by rw [X.warmed.alike.assignable]; exact n3
  have hfit2 : (T.vm.noted m.cls x1.catchType (.cls c5)).assignable ce.cls cT = true := by rw [hal.assignable]; exact hasg
  obtain ⟨kc, hkc, -⟩ := Vm.findClass_spec hE
  obtain ⟨kc1, hkc1, -⟩ := X.warmed.alike.2.2 _ _ hkc
  obtain ⟨t, a1, b1⟩ := kk (T.setVm ((T.vm.noted m.cls x1.catchType (.cls c5)).noted m.cls x.catchType (.cls cT))) hT (X.noted hW2)
  refine ⟨t, ?_, b1⟩
  refine xSteps (g := F0 m pc ls rest) X.here ?_ a1
  intro Q9 E9 d9 acts9
  rw [Jvm.W.findHandler_eq (meth := meth) (code := c) X.method' X.code, hsplit]
  rw [xGo (s := (T.setTop (F0 m pc ls rest)).pushFrame (.throwing a)) (f := F0 m pc ls rest) (c := c5) (cell := ce) (b := false) hx1 h01 hcl₁ (by show T.heap[a]? = _; rw [hT]; exact hcell) (VmData.ne_statics_of (by rw [hv]; rfl)) ⟨kc1, hkc1⟩ ⟨k1, hk1⟩ hfit1]
  rw [if_neg (by decide)]
  rw [xGo (f := F0 m pc ls rest) (c := cT) (cell := ce) (b := true) hx h0 hcl₂ (by show T.heap[a]? = _; rw [hT]; exact hcell) (VmData.ne_statics_of (by rw [hv]; rfl)) (Vm.classAt_of_assignable hfit2 ⟨k2, hk2⟩) ⟨k2, hk2⟩ hfit2]
  rw [if_pos rfl]
  exact Iff.rfl
end Caught
end
section
/-! Methods that only read: a call of one leaves the heap as it is, so that it may stand before a throw. -/
def mCp (G : mG) (y : mY) (d : Nat) (args : List mV) (M : mM) (x : Int) : Prop := Met (gL G) y.1 (zW (yC y)) { frames := d, cells := 0, slots := 0, locals := 64 * d } (va_Pc (args.map mcv) (mPre G M)) (fun _ st oc t => oc = .returned (some (.int (Int32.ofInt x))) ∧ t.heap = st.heap) 0 0 (fun _ => False)
section PUR
variable {G : mG} {y y2 : mY} {d pc pc9 : Nat} {L st st9 As : List mV} {M : mM}
theorem mCp.of {x : Int} {ty : FieldType} {args : List mV} (hp : plainName y.1.cls = true) (hlen : (mEnt args).length ≤ y.2.2.1) (hL : mEnt args ++ List.replicate (y.2.2.1 - (mEnt args).length) vd = L) (hd : decode y.2.1 pc = .ok (.ireturn, 1)) (hr : y.2.2.2 = some ty) (hn : narrow ty (.int (Int32.ofInt x)) = .int (Int32.ofInt x)) (go : mGo G y d L M 0 [] pc [vi x]) : mCp G y d args M x := by
  refine Met.ofW (cc := y.2.1) (maxL := y.2.2.1) (ret := y.2.2.2) hp rfl ?_
  intro p e s m args9 below meth c s₁ B hml hv
  obtain ⟨rfl, hRep, hK, hh, hal⟩ := hv
  have hl := lv_entry (args.map mcv) (n := y.2.2.1) (by rw [mEnt_len]; exact hlen)
  rw [lg_entry_eq]
  generalize (lg_sl (args.map mcv) ++ List.replicate (y.2.2.1 - (lg_sl (args.map mcv)).length) Slot.unset).toArray = ls at hl ⊢
  have hLs : mLs ls y.2.2.1 L := by
    refine ⟨hl.1, hl.2.1, fun i v hi hv => ?_⟩
    rw [← hL] at hi
    by_cases q : i < (mEnt args).length
    · rw [List.getElem?_append_left q] at hi
      have := mEnt_args args 0 i v hi hv
      rw [Nat.zero_add] at this
      exact hl.2.2 _ this
    · rw [List.getElem?_append_right (by omega)] at hi
      have := List.mem_of_getElem? hi
      rw [List.eq_of_mem_replicate this] at hv
      cases hv
  refine go p e (headSpec (zW (yC y)) { frames := d, cells := 0, slots := 0, locals := 64 * d }).room s m (args.map mcv).toArray below meth c s.heap [] 0 0 ls _ ⟨B.exec, B.bytes, hml, B.returns, B.notSynchronized, (name_of_methodNamed B.named B.method).1, findClass_of_methodNamed B.named, hK, hh.use _, hh, hal, Nat.le_refl _, Nat.le_refl _⟩ hRep hLs (Nat.zero_le _) (Nat.zero_le _) ?_
  exact W.zret B.exec B.bytes (B.returns.trans hr) hn (fun t ht hW => ⟨rfl, ht⟩) (fun q h => by cases h) hd B.notSynchronized
theorem go_callP {c b idx n : Nat} {x : Int} {r0 : vw_C} {t9 : Nat → FieldType} {st0 : List mV} (hcl : vwCl[c]? = some r0) (hty : vwTy[c]? = some t9) (hr0 : r0.1 = y2.1.cls) (h1 : Cond.methodLink y.1.cls idx y2.1 ∈ lw_R) (h2 : Cond.instanceMethod y2.1 ∈ lw_R) (h3 : Cond.selects y2.1.cls y2.1 y2.1 ∈ lw_R) (h4 : Cond.initialized y2.1.cls ∈ lw_R) (h5 : yC y2 ∈ lw_R) (hd2 : y2.1.cls ≠ "java/lang/invoke/MethodHandle" ∧ y2.1.cls ≠ "java/lang/invoke/VarHandle" ∧ (parseMethodDescriptor y2.1.desc).map (fun d => d.parameters.length) = some n) (hnL : y2.2.2.1 ≤ 45) (hn : As.length = n) (hst : st0 = As.reverse ++ vr b :: st) (hW : (st.map mcat).sum ≤ 8) (hd : decode y.2.1 pc = .ok (.invokevirtual idx, 3)) (hK : mK M b = c + 1)
    (hM : mCp G y2 d (vr b :: As) M x) (h : mGo G y (d + 1) L M (pc + 3) (vi x :: st) pc9 st9) : mGo G y (d + 1) L M pc st0 pc9 st9 := by
  intro p e R s m args below meth c9 H locs cells slots ls Qf hA hR hL c1 c2 k
  have k' := h p e R s m args below meth c9 H locs cells slots ls Qf hA hR hL c1 c2 k
  subst hst
  obtain ⟨hx, hb, hml, -, -, -, hown, hKK, hts, hh, hal, hfr, hlo⟩ := hA
  obtain ⟨hb1, cell, q1, q2, q3, q4⟩ := (hR.2.2.2.2.2.2 b).1 c _ t9 hK hcl hty
  have hbv : mcv (vr b) = .ref b := hR.own hb1
  unfold mCp at hM
  rw [List.map_cons, hbv] at hM
  intro T hT X
  obtain ⟨v, s9, t, T', L', h0, X', hL', e1, e2, ⟨hv, hrep⟩, go⟩ := va_runV (g := F0 m pc ls ((As.reverse ++ vr b :: st).map mcv)) (rest := st.map mcv) ⟨hx, hb, hml, hown, hts⟩ hM (C := y2.1.cls) (n := n) ⟨callB_of n hts (zGood h5 rfl) rfl rfl rfl (hts _ h4) (hts _ h1) hd2 (m_room hfr hlo hnL), hts _ h2, hts _ h3⟩ ⟨mPre_blind, ⟨cell, q1, by rw [q3]; rfl, by rw [q2, ← hr0]; exact (hKK.1 c _ hcl).2.1⟩, fun U hU hW9 => ⟨rfl, mPre_at hKK hh hal hR hU hW9⟩⟩ rfl (by rw [List.length_map]; exact hn) hL.1 (by show (As.reverse ++ vr b :: st).map mcv = _; rw [List.map_append, List.map_cons, hbv, List.map_reverse]) (by rw [m_cats]; show 2 * 0 + _ ≤ 8; omega) hd ⟨c1, c2⟩ T hT X
  have hv' : v = some (.int (Int32.ofInt x)) := Outcome.returned.inj hv
  subst hv'
  have hnil : L' = [] := List.eq_nil_iff_forall_not_mem.mpr (fun q hq => hL' q hq)
  subst hnil
  rw [List.append_nil] at X'
  obtain ⟨t2, a1, b1⟩ := k' T' (by rw [e1, hrep, h0]) X'
  exact ⟨t2, go t2 a1, b1⟩
theorem p_Ga_hasState {g : Nat} {l : Int} (hO : mOk M) (il : i32 l) (kg : mK M g = 7) : mCp G y_Ga_hasState d [vr g, vi l] M (if 0 ≤ l ∧ l < mI M g 0 then 1 else 0) := by
  by_cases c : 0 ≤ l ∧ l < mI M g 0
  · rw [if_pos c]
    refine mCp.of (pc := 17) rfl (Nat.le_of_ble_eq_true rfl) (L := [vr g, vi l]) rfl d_Ga_hasState_17 rfl rfl ?_
    refine go_iload_n d_Ga_hasState_0 rfl rfl ?_
    refine go_if_lt (tgt := 16) d_Ga_hasState_1 rfl il (fun q => by omega) (fun _ => ?_)
    refine go_iload_n d_Ga_hasState_4 rfl rfl ?_
    refine go_aload_n d_Ga_hasState_5 rfl rfl ?_
    refine gg_Ga_55 rfl d_Ga_hasState_6 kg ?_
    refine go_icmp_ge (tgt := 16) d_Ga_hasState_9 rfl il (hO _ _).1 (fun q => by omega) (fun _ => ?_)
    refine go_iconst d_Ga_hasState_12 ?_
    exact go_goto (tgt := 17) d_Ga_hasState_13 rfl mGo.refl
  · rw [if_neg c]
    refine mCp.of (pc := 17) rfl (Nat.le_of_ble_eq_true rfl) (L := [vr g, vi l]) rfl d_Ga_hasState_17 rfl rfl ?_
    have fin : mGo G y_Ga_hasState d [vr g, vi l] M 16 [] 17 [vi 0] := go_iconst d_Ga_hasState_16 mGo.refl
    refine go_iload_n d_Ga_hasState_0 rfl rfl ?_
    refine go_if_lt (tgt := 16) d_Ga_hasState_1 rfl il (fun _ => fin) (fun q => ?_)
    refine go_iload_n d_Ga_hasState_4 rfl rfl ?_
    refine go_aload_n d_Ga_hasState_5 rfl rfl ?_
    refine gg_Ga_55 rfl d_Ga_hasState_6 kg ?_
    exact go_icmp_ge (tgt := 16) d_Ga_hasState_9 rfl il (hO _ _).1 (fun _ => fin) (fun q' => by omega)
end PUR
end
section
/-! The eight throws. -/
theorem kx_A1 : (Jvm.Cond.classLink "ChanceArena" (117 : Nat) "java/lang/IllegalArgumentException") ∈ lw_R := zR (zk_7 _ (List.mem_of_getElem? (i := 192) rfl)) rfl
theorem kx_A2 : (Jvm.Cond.initialized "java/lang/IllegalArgumentException") ∈ lw_R := zR (zk_1 _ (List.mem_of_getElem? (i := 25) rfl)) rfl
theorem kx_S1 : (Jvm.Cond.classLink "ChanceArena" (149 : Nat) "java/lang/IllegalStateException") ∈ lw_R := zR (zk_7 _ (List.mem_of_getElem? (i := 211) rfl)) rfl
theorem kx_S2 : (Jvm.Cond.initialized "java/lang/IllegalStateException") ∈ lw_R := zR (zk_1 _ (List.mem_of_getElem? (i := 33) rfl)) rfl
theorem kx_B1 : (Jvm.Cond.classLink "ChanceArena" (167 : Nat) "java/lang/IndexOutOfBoundsException") ∈ lw_R := zR (zk_8 _ (List.mem_of_getElem? (i := 47) rfl)) rfl
theorem kx_B2 : (Jvm.Cond.initialized "java/lang/IndexOutOfBoundsException") ∈ lw_R := zR (zk_1 _ (List.mem_of_getElem? (i := 34) rfl)) rfl
theorem dx_CA_end_19 : decode y_CA_end.2.1 19 = .ok (.new 117, 3) := dc9_187 (by decide +kernel)
theorem dx_CA_end_22 : decode y_CA_end.2.1 22 = .ok (.dup, 1) := dc9_89 (by decide +kernel)
theorem dx_CA_end_23 : decode y_CA_end.2.1 23 = .ok (.invokespecial 119, 3) := dc9_183 (by decide +kernel)
theorem dx_CA_end_26 : decode y_CA_end.2.1 26 = .ok (.athrow, 1) := by decide +kernel
theorem dx_CA_explore_7 : decode y_CA_explore.2.1 7 = .ok (.new 149, 3) := dc9_187 (by decide +kernel)
theorem dx_CA_explore_10 : decode y_CA_explore.2.1 10 = .ok (.dup, 1) := dc9_89 (by decide +kernel)
theorem dx_CA_explore_11 : decode y_CA_explore.2.1 11 = .ok (.invokespecial 151, 3) := dc9_183 (by decide +kernel)
theorem dx_CA_explore_14 : decode y_CA_explore.2.1 14 = .ok (.athrow, 1) := by decide +kernel
theorem dx_CA_variable_26 : decode y_CA_variable.2.1 26 = .ok (.new 167, 3) := dc9_187 (by decide +kernel)
theorem dx_CA_variable_29 : decode y_CA_variable.2.1 29 = .ok (.dup, 1) := dc9_89 (by decide +kernel)
theorem dx_CA_variable_30 : decode y_CA_variable.2.1 30 = .ok (.invokespecial 169, 3) := dc9_183 (by decide +kernel)
theorem dx_CA_variable_33 : decode y_CA_variable.2.1 33 = .ok (.athrow, 1) := by decide +kernel
theorem dx_CA_solve_10 : decode y_CA_solve.2.1 10 = .ok (.new 149, 3) := dc9_187 (by decide +kernel)
theorem dx_CA_solve_13 : decode y_CA_solve.2.1 13 = .ok (.dup, 1) := dc9_89 (by decide +kernel)
theorem dx_CA_solve_14 : decode y_CA_solve.2.1 14 = .ok (.invokespecial 151, 3) := dc9_183 (by decide +kernel)
theorem dx_CA_solve_17 : decode y_CA_solve.2.1 17 = .ok (.athrow, 1) := by decide +kernel
theorem dx_CA_within_10 : decode y_CA_within.2.1 10 = .ok (.new 117, 3) := dc9_187 (by decide +kernel)
theorem dx_CA_within_13 : decode y_CA_within.2.1 13 = .ok (.dup, 1) := dc9_89 (by decide +kernel)
theorem dx_CA_within_14 : decode y_CA_within.2.1 14 = .ok (.invokespecial 119, 3) := dc9_183 (by decide +kernel)
theorem dx_CA_within_17 : decode y_CA_within.2.1 17 = .ok (.athrow, 1) := by decide +kernel
theorem dx_CA_within_28 : decode y_CA_within.2.1 28 = .ok (.new 149, 3) := dc9_187 (by decide +kernel)
theorem dx_CA_within_31 : decode y_CA_within.2.1 31 = .ok (.dup, 1) := dc9_89 (by decide +kernel)
theorem dx_CA_within_32 : decode y_CA_within.2.1 32 = .ok (.invokespecial 151, 3) := dc9_183 (by decide +kernel)
theorem dx_CA_within_35 : decode y_CA_within.2.1 35 = .ok (.athrow, 1) := by decide +kernel
theorem dx_CA_choose_13 : decode y_CA_choose.2.1 13 = .ok (.new 167, 3) := dc9_187 (by decide +kernel)
theorem dx_CA_choose_16 : decode y_CA_choose.2.1 16 = .ok (.dup, 1) := dc9_89 (by decide +kernel)
theorem dx_CA_choose_17 : decode y_CA_choose.2.1 17 = .ok (.invokespecial 169, 3) := dc9_183 (by decide +kernel)
theorem dx_CA_choose_20 : decode y_CA_choose.2.1 20 = .ok (.athrow, 1) := by decide +kernel
theorem dx_CA_adopt_10 : decode y_CA_adopt.2.1 10 = .ok (.new 149, 3) := dc9_187 (by decide +kernel)
theorem dx_CA_adopt_13 : decode y_CA_adopt.2.1 13 = .ok (.dup, 1) := dc9_89 (by decide +kernel)
theorem dx_CA_adopt_14 : decode y_CA_adopt.2.1 14 = .ok (.invokespecial 151, 3) := dc9_183 (by decide +kernel)
theorem dx_CA_adopt_17 : decode y_CA_adopt.2.1 17 = .ok (.athrow, 1) := by decide +kernel
theorem dx_CA_judge_10 : decode y_CA_judge.2.1 10 = .ok (.new 117, 3) := dc9_187 (by decide +kernel)
theorem dx_CA_judge_13 : decode y_CA_judge.2.1 13 = .ok (.dup, 1) := dc9_89 (by decide +kernel)
theorem dx_CA_judge_14 : decode y_CA_judge.2.1 14 = .ok (.invokespecial 119, 3) := dc9_183 (by decide +kernel)
theorem dx_CA_judge_17 : decode y_CA_judge.2.1 17 = .ok (.athrow, 1) := by decide +kernel
theorem dx_CA_judge_28 : decode y_CA_judge.2.1 28 = .ok (.new 149, 3) := dc9_187 (by decide +kernel)
theorem dx_CA_judge_31 : decode y_CA_judge.2.1 31 = .ok (.dup, 1) := dc9_89 (by decide +kernel)
theorem dx_CA_judge_32 : decode y_CA_judge.2.1 32 = .ok (.invokespecial 151, 3) := dc9_183 (by decide +kernel)
theorem dx_CA_judge_35 : decode y_CA_judge.2.1 35 = .ok (.athrow, 1) := by decide +kernel
section EIG
variable {G : mG} {d t g p v : Nat} {M : mM} {l l1 l2 : Int}
theorem t_CA_end (hT : TH G) (h6 : 6 ≤ d) (hO : mOk M) (il : i32 l) (kt : mK M t = 1) (c : ¬ (0 ≤ l ∧ l ≤ 20 ∧ 20 ≤ mI M t 1)) : mCt G y_CA_end d [vr t, vi l] M "java/lang/IllegalArgumentException" := by
  refine mCt.of (pc := 19) (ic := 119) (ix := 117) hT rfl (Nat.le_of_ble_eq_true rfl) (L := [vr t, vi l]) rfl (by decide +kernel) zA_IAE kx_A1 kx_A2 dx_CA_end_19 dx_CA_end_22 dx_CA_end_23 dx_CA_end_26 h6 ?_
  refine go_iload_n d_CA_end_0 rfl rfl ?_
  refine go_if_lt (tgt := 19) d_CA_end_1 rfl il (fun _ => mGo.refl) (fun c1 => ?_)
  refine go_iload_n d_CA_end_4 rfl rfl ?_
  refine go_bipush d_CA_end_5 (by decide) ?_
  refine go_icmp_gt (tgt := 19) d_CA_end_7 rfl il ⟨by decide, by decide⟩ (fun _ => mGo.refl) (fun c2 => ?_)
  refine go_aload_n d_CA_end_10 rfl rfl ?_
  refine gg_CA_13 rfl d_CA_end_11 kt ?_
  refine go_bipush d_CA_end_14 (by decide) ?_
  exact go_icmp_ge (tgt := 27) d_CA_end_16 rfl (hO _ _).1 ⟨by decide, by decide⟩ (fun c3 => absurd (⟨by omega, by omega, c3⟩) c) (fun _ => mGo.refl)
theorem t_CA_explore (hT : TH G) (h6 : 6 ≤ d) (hO : mOk M) (kt : mK M t = 1) (c : mI M t 6 = 0) : mCt G y_CA_explore d [vr t] M "java/lang/IllegalStateException" := by
  refine mCt.of (pc := 7) (ic := 151) (ix := 149) hT rfl (Nat.le_of_ble_eq_true rfl) (L := [vr t, vd]) rfl (by decide +kernel) zA_ISE kx_S1 kx_S2 dx_CA_explore_7 dx_CA_explore_10 dx_CA_explore_11 dx_CA_explore_14 h6 ?_
  refine go_aload_n d_CA_explore_0 rfl rfl ?_
  refine gg_CA_41 rfl d_CA_explore_1 kt ?_
  exact go_if_ne (tgt := 15) d_CA_explore_4 rfl (hO _ _).1 (fun q => absurd c q) (fun _ => mGo.refl)
theorem t_CA_solve (hT : TH G) (h6 : 6 ≤ d) (hO : mOk M) (kt : mK M t = 1) (rg : mR M t 9 = g) (kg : mK M g = 7) (c : mI M g 0 = 0) : mCt G y_CA_solve d [vr t] M "java/lang/IllegalStateException" := by
  refine mCt.of (pc := 10) (ic := 151) (ix := 149) hT rfl (Nat.le_of_ble_eq_true rfl) (L := [vr t, vd]) rfl (by decide +kernel) zA_ISE kx_S1 kx_S2 dx_CA_solve_10 dx_CA_solve_13 dx_CA_solve_14 dx_CA_solve_17 h6 ?_
  refine go_aload_n d_CA_solve_0 rfl rfl ?_
  refine gg_CA_54 rfl d_CA_solve_1 kt ?_
  rw [rg]
  refine gg_CA_160 rfl d_CA_solve_4 kg ?_
  exact go_if_ne (tgt := 18) d_CA_solve_7 rfl (hO _ _).1 (fun q => absurd c q) (fun _ => mGo.refl)
theorem t_CA_adopt (hT : TH G) (h6 : 6 ≤ d) (hO : mOk M) (kt : mK M t = 1) (rv : mR M t 11 = v) (kv : mK M v = 13) (c : mI M v 1 = 0) : mCt G y_CA_adopt d [vr t] M "java/lang/IllegalStateException" := by
  refine mCt.of (pc := 10) (ic := 151) (ix := 149) hT rfl (Nat.le_of_ble_eq_true rfl) (L := [vr t, vd]) rfl (by decide +kernel) zA_ISE kx_S1 kx_S2 dx_CA_adopt_10 dx_CA_adopt_13 dx_CA_adopt_14 dx_CA_adopt_17 h6 ?_
  refine go_aload_n d_CA_adopt_0 rfl rfl ?_
  refine gg_CA_70 rfl d_CA_adopt_1 kt ?_
  rw [rv]
  refine gg_CA_137 rfl d_CA_adopt_4 kv ?_
  exact go_if_ne (tgt := 18) d_CA_adopt_7 rfl (hO _ _).1 (fun q => absurd c q) (fun _ => mGo.refl)
theorem t_CA_within1 (hT : TH G) (h6 : 6 ≤ d) (il : i32 l) (c : ¬ (0 ≤ l ∧ l ≤ 32)) : mCt G y_CA_within d [vr t, vi l] M "java/lang/IllegalArgumentException" := by
  refine mCt.of (pc := 10) (ic := 119) (ix := 117) hT rfl (Nat.le_of_ble_eq_true rfl) (L := [vr t, vi l, vd, vd]) rfl (by decide +kernel) zA_IAE kx_A1 kx_A2 dx_CA_within_10 dx_CA_within_13 dx_CA_within_14 dx_CA_within_17 h6 ?_
  refine go_iload_n d_CA_within_0 rfl rfl ?_
  refine go_if_lt (tgt := 10) d_CA_within_1 rfl il (fun _ => mGo.refl) (fun c1 => ?_)
  refine go_iload_n d_CA_within_4 rfl rfl ?_
  refine go_bipush d_CA_within_5 (by decide) ?_
  exact go_icmp_le (tgt := 18) d_CA_within_7 rfl il ⟨by decide, by decide⟩ (fun c2 => absurd ⟨by omega, c2⟩ c) (fun _ => mGo.refl)
theorem t_CA_within2 (hT : TH G) (h6 : 6 ≤ d) (hO : mOk M) (il : i32 l) (c : 0 ≤ l ∧ l ≤ 32) (kt : mK M t = 1) (rg : mR M t 9 = g) (kg : mK M g = 7) (c0 : mI M g 0 = 0) : mCt G y_CA_within d [vr t, vi l] M "java/lang/IllegalStateException" := by
  refine mCt.of (pc := 28) (ic := 151) (ix := 149) hT rfl (Nat.le_of_ble_eq_true rfl) (L := [vr t, vi l, vd, vd]) rfl (by decide +kernel) zA_ISE kx_S1 kx_S2 dx_CA_within_28 dx_CA_within_31 dx_CA_within_32 dx_CA_within_35 h6 ?_
  refine go_iload_n d_CA_within_0 rfl rfl ?_
  refine go_if_lt (tgt := 10) d_CA_within_1 rfl il (fun q => by omega) (fun c1 => ?_)
  refine go_iload_n d_CA_within_4 rfl rfl ?_
  refine go_bipush d_CA_within_5 (by decide) ?_
  refine go_icmp_le (tgt := 18) d_CA_within_7 rfl il ⟨by decide, by decide⟩ (fun _ => ?_) (fun q => by omega)
  refine go_aload_n d_CA_within_18 rfl rfl ?_
  refine gg_CA_54 rfl d_CA_within_19 kt ?_
  rw [rg]
  refine gg_CA_160 rfl d_CA_within_22 kg ?_
  exact go_if_ne (tgt := 36) d_CA_within_25 rfl (hO _ _).1 (fun q => absurd c0 q) (fun _ => mGo.refl)
theorem t_CA_judge1 (hT : TH G) (h6 : 6 ≤ d) (il : i32 l) (c : ¬ (l = 1 ∨ l = 2)) : mCt G y_CA_judge d [vr t, vi l] M "java/lang/IllegalArgumentException" := by
  refine mCt.of (pc := 10) (ic := 119) (ix := 117) hT rfl (Nat.le_of_ble_eq_true rfl) (L := [vr t, vi l]) rfl (by decide +kernel) zA_IAE kx_A1 kx_A2 dx_CA_judge_10 dx_CA_judge_13 dx_CA_judge_14 dx_CA_judge_17 h6 ?_
  refine go_iload_n d_CA_judge_0 rfl rfl ?_
  refine go_iconst d_CA_judge_1 ?_
  refine go_icmp_eq (tgt := 18) d_CA_judge_2 rfl il ⟨by decide, by decide⟩ (fun q => absurd (Or.inl q) c) (fun _ => ?_)
  refine go_iload_n d_CA_judge_5 rfl rfl ?_
  refine go_iconst d_CA_judge_6 ?_
  exact go_icmp_eq (tgt := 18) d_CA_judge_7 rfl il ⟨by decide, by decide⟩ (fun q => absurd (Or.inr q) c) (fun _ => mGo.refl)
theorem t_CA_judge2 (hT : TH G) (h6 : 6 ≤ d) (hO : mOk M) (il : i32 l) (c : l = 1 ∨ l = 2) (kt : mK M t = 1) (rg : mR M t 9 = g) (kg : mK M g = 7) (c0 : mI M g 0 = 0) : mCt G y_CA_judge d [vr t, vi l] M "java/lang/IllegalStateException" := by
  refine mCt.of (pc := 28) (ic := 151) (ix := 149) hT rfl (Nat.le_of_ble_eq_true rfl) (L := [vr t, vi l]) rfl (by decide +kernel) zA_ISE kx_S1 kx_S2 dx_CA_judge_28 dx_CA_judge_31 dx_CA_judge_32 dx_CA_judge_35 h6 ?_
  have fin : mGo G y_CA_judge d [vr t, vi l] M 18 [] 28 [] := by
    refine go_aload_n d_CA_judge_18 rfl rfl ?_
    refine gg_CA_54 rfl d_CA_judge_19 kt ?_
    rw [rg]
    refine gg_CA_160 rfl d_CA_judge_22 kg ?_
    exact go_if_ne (tgt := 36) d_CA_judge_25 rfl (hO _ _).1 (fun q => absurd c0 q) (fun _ => mGo.refl)
  refine go_iload_n d_CA_judge_0 rfl rfl ?_
  refine go_iconst d_CA_judge_1 ?_
  refine go_icmp_eq (tgt := 18) d_CA_judge_2 rfl il ⟨by decide, by decide⟩ (fun _ => fin) (fun q => ?_)
  refine go_iload_n d_CA_judge_5 rfl rfl ?_
  refine go_iconst d_CA_judge_6 ?_
  exact go_icmp_eq (tgt := 18) d_CA_judge_7 rfl il ⟨by decide, by decide⟩ (fun _ => fin) (fun q' => absurd c (fun u => u.elim q q'))
theorem t_CA_variable (hT : TH G) (h6 : 6 ≤ d) (hO : mOk M) (i1 : i32 l1) (i2 : i32 l2) (kt : mK M t = 1) (rg : mR M t 9 = g) (kg : mK M g = 7) (rp : mR M t 4 = p) (kp : mK M p = 6) (c : ¬ ((0 ≤ l1 ∧ l1 < mI M g 0) ∧ (0 ≤ l2 ∧ l2 < mI M p 3))) : mCt G y_CA_variable (d + 1) [vr t, vi l1, vi l2] M "java/lang/IndexOutOfBoundsException" := by
  have h6 : 6 ≤ d + 1 := by omega
  refine mCt.of (pc := 26) (ic := 169) (ix := 167) hT rfl (Nat.le_of_ble_eq_true rfl) (L := [vr t, vi l1, vi l2]) rfl (by decide +kernel) zA_IOB kx_B1 kx_B2 dx_CA_variable_26 dx_CA_variable_29 dx_CA_variable_30 dx_CA_variable_33 h6 ?_
  refine go_aload_n d_CA_variable_0 rfl rfl ?_
  refine gg_CA_54 rfl d_CA_variable_1 kt ?_
  rw [rg]
  refine go_iload_n d_CA_variable_4 rfl rfl ?_
  have hs := p_Ga_hasState (G := G) (d := d) hO i1 kg
  refine go_callP (y2 := y_Ga_hasState) (c := 6) (n := 1) (As := [vi l1]) rfl rfl rfl k5_149 k5_150 k5_151 k1_7 k5_152 ⟨by decide, by decide, by decide +kernel⟩ (by decide) rfl rfl (Nat.le_of_ble_eq_true rfl) d_CA_variable_5 kg hs ?_
  by_cases c1 : 0 ≤ l1 ∧ l1 < mI M g 0
  · rw [if_pos c1]
    refine go_if_eq (tgt := 26) d_CA_variable_8 rfl ⟨by decide, by decide⟩ (fun _ => mGo.refl) (fun _ => ?_)
    refine go_iload_n d_CA_variable_11 rfl rfl ?_
    refine go_if_lt (tgt := 26) d_CA_variable_12 rfl i2 (fun _ => mGo.refl) (fun c2 => ?_)
    refine go_iload_n d_CA_variable_15 rfl rfl ?_
    refine go_aload_n d_CA_variable_16 rfl rfl ?_
    refine gg_CA_34 rfl d_CA_variable_17 kt ?_
    rw [rp]
    refine gg_CA_140 rfl d_CA_variable_20 kp ?_
    exact go_icmp_lt (tgt := 34) d_CA_variable_23 rfl i2 (hO _ _).1 (fun c3 => absurd ⟨c1, by omega, c3⟩ c) (fun _ => mGo.refl)
  · rw [if_neg c1]
    exact go_if_eq (tgt := 26) d_CA_variable_8 rfl ⟨by decide, by decide⟩ (fun _ => mGo.refl) (fun q => absurd rfl q)
theorem p_Ga_commandAt {F : Nat} (hO : mOk M) (i1 : i32 l1) (i2 : i32 l2) (kg : mK M g = 7) (r4 : mR M g 4 = F) (kF : mK M F = 30) (nF : mI M g 0 < mN M F) (iF : (0 ≤ l1 ∧ l1 < mI M g 0) → i32 (mI M F (l1 + 1).toNat - mI M F l1.toNat)) (c : ¬ ((0 ≤ l1 ∧ l1 < mI M g 0) ∧ 0 ≤ l2 ∧ l2 < mI M F (l1 + 1).toNat - mI M F l1.toNat)) : mCp G y_Ga_commandAt (d + 1) [vr g, vi l1, vi l2] M (-1) := by
  refine mCp.of (pc := 32) rfl (Nat.le_of_ble_eq_true rfl) (L := [vr g, vi l1, vi l2]) rfl d_Ga_commandAt_32 rfl rfl ?_
  have fin : mGo G y_Ga_commandAt (d + 1) [vr g, vi l1, vi l2] M 31 [] 32 [vi (-1)] := go_iconst d_Ga_commandAt_31 mGo.refl
  refine go_aload_n d_Ga_commandAt_0 rfl rfl ?_
  refine go_iload_n d_Ga_commandAt_1 rfl rfl ?_
  have hs := p_Ga_hasState (G := G) (d := d) hO i1 kg
  refine go_callP (y2 := y_Ga_hasState) (c := 6) (n := 1) (As := [vi l1]) rfl rfl rfl k5_165 k5_150 k5_151 k1_7 k5_152 ⟨by decide, by decide, by decide +kernel⟩ (by decide) rfl rfl (Nat.le_of_ble_eq_true rfl) d_Ga_commandAt_2 kg hs ?_
  by_cases c1 : 0 ≤ l1 ∧ l1 < mI M g 0
  · rw [if_pos c1]
    have i1' := iF c1
    refine go_if_eq (tgt := 31) d_Ga_commandAt_5 rfl ⟨by decide, by decide⟩ (fun _ => fin) (fun _ => ?_)
    refine go_iload_n d_Ga_commandAt_8 rfl rfl ?_
    refine go_if_lt (tgt := 31) d_Ga_commandAt_9 rfl i2 (fun _ => fin) (fun c2 => ?_)
    refine go_iload_n d_Ga_commandAt_12 rfl rfl ?_
    refine go_aload_n d_Ga_commandAt_13 rfl rfl ?_
    refine gg_Ga_21 rfl d_Ga_commandAt_14 kg ?_
    rw [r4]
    refine go_iload_n d_Ga_commandAt_17 rfl rfl ?_
    refine go_iconst d_Ga_commandAt_18 ?_
    refine go_iadd d_Ga_commandAt_19 ?_
    refine go_iald d_Ga_commandAt_20 kF ⟨by omega, by omega⟩ ?_
    refine go_aload_n d_Ga_commandAt_21 rfl rfl ?_
    refine gg_Ga_21 rfl d_Ga_commandAt_22 kg ?_
    rw [r4]
    refine go_iload_n d_Ga_commandAt_25 rfl rfl ?_
    refine go_iald d_Ga_commandAt_26 kF ⟨by omega, by omega⟩ ?_
    refine go_isub d_Ga_commandAt_27 ?_
    exact go_icmp_lt (tgt := 33) d_Ga_commandAt_28 rfl i2 i1' (fun c3 => absurd ⟨c1, by omega, c3⟩ c) (fun _ => fin)
  · rw [if_neg c1]
    exact go_if_eq (tgt := 31) d_Ga_commandAt_5 rfl ⟨by decide, by decide⟩ (fun _ => fin) (fun q => absurd rfl q)
theorem t_CA_choose {F : Nat} (hT : TH G) (h6 : 6 ≤ d) (hO : mOk M) (i1 : i32 l1) (i2 : i32 l2) (kt : mK M t = 1) (rg : mR M t 9 = g) (kg : mK M g = 7) (r4 : mR M g 4 = F) (kF : mK M F = 30) (nF : mI M g 0 < mN M F) (iF : (0 ≤ l1 ∧ l1 < mI M g 0) → i32 (mI M F (l1 + 1).toNat - mI M F l1.toNat)) (c : ¬ ((0 ≤ l1 ∧ l1 < mI M g 0) ∧ 0 ≤ l2 ∧ l2 < mI M F (l1 + 1).toNat - mI M F l1.toNat)) : mCt G y_CA_choose (d + 2) [vr t, vi l1, vi l2] M "java/lang/IndexOutOfBoundsException" := by
  have h6 : 6 ≤ d + 2 := by omega
  refine mCt.of (pc := 13) (ic := 169) (ix := 167) hT rfl (Nat.le_of_ble_eq_true rfl) (L := [vr t, vi l1, vi l2]) rfl (by decide +kernel) zA_IOB kx_B1 kx_B2 dx_CA_choose_13 dx_CA_choose_16 dx_CA_choose_17 dx_CA_choose_20 h6 ?_
  refine go_aload_n d_CA_choose_0 rfl rfl ?_
  refine gg_CA_54 rfl d_CA_choose_1 kt ?_
  rw [rg]
  refine go_iload_n d_CA_choose_4 rfl rfl ?_
  refine go_iload_n d_CA_choose_5 rfl rfl ?_
  have hs := p_Ga_commandAt (G := G) (d := d) hO i1 i2 kg r4 kF nF iF c
  refine go_callP (y2 := y_Ga_commandAt) (c := 6) (n := 2) (As := [vi l1, vi l2]) rfl rfl rfl k5_161 k5_162 k5_163 k1_7 k5_164 ⟨by decide, by decide, by decide +kernel⟩ (by decide) rfl rfl (Nat.le_of_ble_eq_true rfl) d_CA_choose_6 kg hs ?_
  refine go_iconst d_CA_choose_9 ?_
  exact go_icmp_ne (tgt := 21) d_CA_choose_10 rfl ⟨by decide, by decide⟩ ⟨by decide, by decide⟩ (fun q => absurd rfl q) (fun _ => mGo.refl)
end EIG
end
section
/-! A static call of a method with handlers (the law's helpers). -/
theorem zRunSW {p : Program} {l : Launch} {e : Env} {R : Room} {s : State} {m : MethodId} {args : Array Value} {below : List Frame} {meth : Method} {c : Code} {H : Heap} {locs : List Loc} {cells slots : Nat} {y : MethodName} {bytes cc : ByteArray} {maxL nL mc ms n index : Nat} {ret : Option FieldType} {hs : List (Nat × Nat × Nat × Nat)} {rm : Room} {Pc : Array Value → State → Prop} {Qc : Array Value → State → Outcome → State → Prop} {free : Addr → Prop} {own : String} {As rest : List Value} {g : JFrame}
    (S : CallFix p m c cc nL s args lw_R own) (hM : Met l y (zW (Cond.codeWith y bytes maxL ret hs)) rm Pc Qc mc ms free) (h1 : Cond.methodLink own index y ∈ lw_R) (h2 : Cond.static y ∈ lw_R) (h4 : Cond.initialized y.cls ∈ lw_R) (h5 : Cond.codeWith y bytes maxL ret hs ∈ lw_R) (hrc : rm.cells = mc) (hrs : rm.slots = ms)
    (hd : y.cls ≠ "java/lang/invoke/MethodHandle" ∧ y.cls ≠ "java/lang/invoke/VarHandle" ∧ (parseMethodDescriptor y.desc).map (fun d => d.parameters.length) = some n) (hR : rm.frames + 1 ≤ R.frames ∧ 8 + (maxL + 11) + rm.locals ≤ R.locals) (hp : PreS s H Pc As)
    (hg : g.method = m) (hn : As.length = n) (hsize : g.locals.size = nL) (hstack : g.stack = As.reverse ++ rest) (hW : 2 * g.monitorRoom + (rest.map fun v => v.category).sum ≤ 8) (hdg : decode cc g.pc = .ok (.invokestatic index, 3)) (hf : cells + mc ≤ R.cells ∧ slots + ms ≤ R.slots) :
    va_Run p l e R s m args below meth c H locs cells slots mc ms g rest (Qc As.toArray) free := by
  obtain ⟨hx, hb, hml, ho, hts⟩ := S
  have hG : GoodIn lw_R (zW (Cond.codeWith y bytes maxL ret hs)) := zGood h5 rfl
  have hK : Back l R p e below s args y 3 8 (PreOf R mc ms Pc) (PostOf Qc mc ms free) := va_backW (hh := hs) (bytes := bytes) (maxL := maxL) (ret := ret) hM hp.1 hrc hrs hR.1 hR.2 (pay_in hts hG) List.mem_cons_self (fun a9 U hW9 => word_at hW9 (Or.inl (by first | rfl | simp [Cond.onTables, Cond.keeps, Cond.steady])) (hts _ h4))
  intro T hT X
  obtain ⟨mk, methM, cM, hnamed, hmethM, -, -, -, -, -, -, hsigM⟩ := Cond.codeWith_spec (hts _ h5)
  have hstatic := Cond.static_spec hnamed hmethM (hts _ h2)
  obtain ⟨kP, hkP, -⟩ := className_of_methodNamed hnamed
  have hinitP := Cond.initialized_spec (findClass_of_methodNamed hnamed) hkP (hts _ h4)
  have hlen : As.length = methM.sig.parameters.length := by
    have h9 := hd.2.2
    rw [hsigM] at h9
    rw [hn]
    exact (Option.some.inj h9).symm
  obtain ⟨vm₁, X₁, hstep₁⟩ := X.invokestatic hx ho (hts _ h1) hnamed hmethM hstatic hkP hinitP ⟨hd.1, hd.2.1⟩ (g := g) hg (argsL := As) (rest := rest) hlen hstack (by rw [hb]; exact hdg)
  obtain ⟨v, ⟨U9, l2, c2, s2⟩, X9, ⟨g9, mk9, t, L, e1, e2, hq, q1, hL, q2, q3⟩, hsteps⟩ := hK m meth c ⟨T.setVm vm₁, locs, cells, slots⟩ { g with stack := rest } (.invokestatic index) mk As.toArray X₁ hg (hsize.trans hml.symm) (by rw [hb]; exact hdg) hW (X₁.named hnamed) ⟨hf.1, hf.2, hp.2 (T.setVm vm₁) hT X₁.warmed⟩
  dsimp only [Pt.U, Pt.locs, Pt.cells, Pt.slots] at X9 e1 e2 q1 q2 q3 hsteps
  subst q1; subst q2; subst q3
  exact ⟨v, (T.setVm vm₁).calling g9 mk9 As.toArray, t, U9, L, hT, X9, hL, e1, e2, hq, fun tg h => hstep₁ _ fun acts => by rw [doInvoke_state]; exact hsteps.trans h⟩
/-! The law's helpers: methods with handlers. -/
abbrev yW (y : mY) (hs : List (Nat × Nat × Nat × Nat)) : Cond := Cond.codeWith y.1 y.2.1 y.2.2.1 y.2.2.2 hs
def mClW (G : mG) (y : mY) (hs : List (Nat × Nat × Nat × Nat)) (d : Nat) (args : List mV) (M : mM) (r : Option mV) (M' : mM) : Prop :=
  (mZ M ≤ mZ M' ∧ mS M ≤ mS M') ∧ Met (gL G) y.1 (zW (yW y hs)) { frames := d, cells := mZ M' - mZ M, slots := mS M' - mS M, locals := 64 * d } (va_Pc (args.map mcv) (mPre G M)) (mQ G r M') (mZ M' - mZ M) (mS M' - mS M) (mOwn G)
/-- a call of a method with handlers answers an int -/
def CiW (G : mG) (y : mY) (hs : List (Nat × Nat × Nat × Nat)) (d : Nat) (args : List mV) (M : mM) (Q : Int → mM → Prop) : Prop := ∃ r M', mClW G y hs d args M r M' ∧ ∃ x, r = some (vi x) ∧ Q x M'
section HEL
variable {G : mG} {y y2 : mY} {hs : List (Nat × Nat × Nat × Nat)} {d pc : Nat} {L st As args : List mV} {M : mM} {Q : Option mV → mM → Prop}
theorem wm_openW {Q9 : Int → mM → Prop} (hp : plainName y.1.cls = true) (hlen : (mEnt args).length ≤ y.2.2.1) (hL : mEnt args ++ List.replicate (y.2.2.1 - (mEnt args).length) vd = L) (h : mWm G y d 0 L [] M (fun r M1 => ∃ x, r = some (vi x) ∧ Q9 x M1)) : CiW G y hs d args M Q9 := by
  obtain ⟨r, M', ⟨h1, h2⟩, h3⟩ := h
  refine ⟨r, M', ⟨h1, ?_⟩, h3⟩
  refine va_MetW (cc := y.2.1) (maxL := y.2.2.1) (ret := y.2.2.2) (hh := hs) hp rfl ?_
  intro p e s m args9 below meth c s₁ B hml hv
  obtain ⟨rfl, hRep, hK, hh, hal⟩ := hv
  have hl := lv_entry (args.map mcv) (n := y.2.2.1) (by rw [mEnt_len]; exact hlen)
  rw [lg_entry_eq]
  generalize (lg_sl (args.map mcv) ++ List.replicate (y.2.2.1 - (lg_sl (args.map mcv)).length) Slot.unset).toArray = ls at hl ⊢
  have hLs : mLs ls y.2.2.1 L := by
    refine ⟨hl.1, hl.2.1, fun i v hi hv => ?_⟩
    rw [← hL] at hi
    by_cases q : i < (mEnt args).length
    · rw [List.getElem?_append_left q] at hi
      have := mEnt_args args 0 i v hi hv
      rw [Nat.zero_add] at this
      exact hl.2.2 _ this
    · rw [List.getElem?_append_right (by omega)] at hi
      have := List.mem_of_getElem? hi
      rw [List.eq_of_mem_replicate this] at hv
      cases hv
  have := h2 p e (headSpec (zW (yW y hs)) { frames := d, cells := mZ M' - mZ M, slots := mS M' - mS M, locals := 64 * d }).room s m (args.map mcv).toArray below meth c s.heap [] 0 0 ls ⟨B.exec, B.bytes, hml, B.returns, B.notSynchronized, (name_of_methodNamed B.named B.method).1, findClass_of_methodNamed B.named, hK, hh.use _, hh, hal, Nat.le_refl _, Nat.le_refl _⟩ hRep (fun q h => by cases h) (by rw [Nat.zero_add]; exact Nat.le_refl _) (by rw [Nat.zero_add]; exact Nat.le_refl _) hLs
  rw [Nat.zero_add, Nat.zero_add] at this
  exact this
theorem wm_callSW {idx n : Nat} {st0 : List mV} (h1 : Cond.methodLink y.1.cls idx y2.1 ∈ lw_R) (h2 : Cond.static y2.1 ∈ lw_R) (h4 : Cond.initialized y2.1.cls ∈ lw_R) (h5 : yW y2 hs ∈ lw_R) (hd2 : y2.1.cls ≠ "java/lang/invoke/MethodHandle" ∧ y2.1.cls ≠ "java/lang/invoke/VarHandle" ∧ (parseMethodDescriptor y2.1.desc).map (fun d => d.parameters.length) = some n) (hnL : y2.2.2.1 ≤ 45) (hn : As.length = n) (hst : st0 = As.reverse ++ st) (hW : (st.map mcat).sum ≤ 8) (hd : decode y.2.1 pc = .ok (.invokestatic idx, 3))
    (h : CiW G y2 hs d As M (fun x M1 => mWm G y (d + 1) (pc + 3) L (vi x :: st) M1 Q)) : mWm G y (d + 1) pc L st0 M Q := by
  obtain ⟨r, M1, hC, x, rfl, r2, M2, ⟨⟨z1, z2⟩, hE⟩, hQ⟩ := h
  have hz := hC.1
  refine ⟨r2, M2, ⟨⟨by omega, by omega⟩, fun p e R s m args below meth c H locs cells slots ls hA hR hl hc hs' hL => ?_⟩, hQ⟩
  intro T hT X
  subst hst
  have hA' := hA
  obtain ⟨hx, hb, hml, -, -, -, hown, hKK, hts, hh, hal, hfr, hlo⟩ := hA'
  obtain ⟨v, s9, t, T', L', h0, X', hL', e1, e2, ⟨hv, hrep⟩, go⟩ := zRunSW (g := F0 m pc ls ((As.reverse ++ st).map mcv)) (rest := st.map mcv) (As := As.map mcv) ⟨hx, hb, hml, hown, hts⟩ hC.2 (n := n) h1 h2 h4 h5 rfl rfl hd2 (m_room hfr hlo hnL) ⟨mPre_blind, fun U hU hW9 => ⟨rfl, mPre_at hKK hh hal hR hU hW9⟩⟩ rfl (by rw [List.length_map]; exact hn) hL.1 (by show (As.reverse ++ st).map mcv = _; rw [List.map_append, List.map_reverse]) (by rw [m_cats]; show 2 * 0 + _ ≤ 8; omega) hd ⟨by omega, by omega⟩ T hT X
  have hv' : v = some (mcv (vi x)) := Outcome.returned.inj hv
  subst hv'
  obtain ⟨t2, a1, b1⟩ := hE p e R s m args below meth c T'.heap (locs ++ L') (cells + (mZ M1 - mZ M)) (slots + (mS M1 - mS M)) ls hA (by rw [e1]; exact hrep) (t_lL hl hL') (by omega) (by omega) hL T' rfl X'
  refine ⟨t2, go t2 a1, ?_⟩
  rw [show cells + (mZ M2 - mZ M) = cells + (mZ M1 - mZ M) + (mZ M2 - mZ M1) by first | rfl | omega, show slots + (mS M2 - mS M) = slots + (mS M1 - mS M) + (mS M2 - mS M1) by first | rfl | omega]
  exact b1
/-- the first row of the table takes it -/
theorem mClW.first {c b idx n k v : Nat} {k0 : Fin 4} {cls : String} {r0 : vw_C} {t9 : Nat → FieldType} (hcl : vwCl[c]? = some r0) (hty : vwTy[c]? = some t9) (hr0 : r0.1 = y2.1.cls) (h1 : Cond.methodLink y.1.cls idx y2.1 ∈ lw_R) (h2 : Cond.instanceMethod y2.1 ∈ lw_R) (h3 : Cond.selects y2.1.cls y2.1 y2.1 ∈ lw_R) (h4 : Cond.initialized y2.1.cls ∈ lw_R) (h5 : yC y2 ∈ lw_R) (hd2 : y2.1.cls ≠ "java/lang/invoke/MethodHandle" ∧ y2.1.cls ≠ "java/lang/invoke/VarHandle" ∧ (parseMethodDescriptor y2.1.desc).map (fun d => d.parameters.length) = some n) (hnL : y2.2.2.1 ≤ 45) (hn : As.length = n) (hW : (st.map mcat).sum ≤ 8) (hd : decode y.2.1 pc = .ok (.invokevirtual idx, 3)) (hKb : mK M b = c + 1)
    (hp : plainName y.1.cls = true) (hlen : (mEnt args).length ≤ y.2.2.1) (hL : mEnt args ++ List.replicate (y.2.2.1 - (mEnt args).length) vd = L) (hr : y.2.2.2 = some .int) (hM : mCt G y2 d (vr b :: As) M cls) (go : mGo G y (d + 1) L M 0 [] pc (As.reverse ++ vr b :: st))
    (x1 : ExceptionTableEntry) (more : List ExceptionTableEntry) (hsp : tableOf hs = x1 :: more) (hcov : covers x1 pc = true) (hx0 : x1.catchType ≠ 0) (kl : Cond.classLink y.1.cls x1.catchType cls ∈ lw_R) (kc : Cond.castable cls cls ∈ lw_R) (hd0 : decode y.2.1 x1.handlerPc = .ok (.astore_n k0, 1)) (hk : (k0 : Nat) = k) (hkl : k < y.2.2.1) (hd1 : decode y.2.1 (x1.handlerPc + 1) = .ok (.iconst (v : Int), 1)) (hd3 : decode y.2.1 (x1.handlerPc + 1 + 1) = .ok (.ireturn, 1)) : mClW G y hs (d + 1) args M (some (vi (v : Int))) (mNew M 50 0 6) := by
  refine ⟨⟨Nat.le_succ _, Nat.le_add_right _ _⟩, ?_⟩
  rw [show mZ (mNew M 50 0 6) - mZ M = 1 by show mZ M + 1 - mZ M = 1; omega, show mS (mNew M 50 0 6) - mS M = 6 by show mS M + 6 - mS M = 6; omega]
  refine va_MetW (cc := y.2.1) (maxL := y.2.2.1) (ret := y.2.2.2) (hh := hs) hp rfl ?_
  intro p e s m args9 below meth co s₁ B hml hv
  obtain ⟨rfl, hRep, hK, hh, hal⟩ := hv
  have hl := lv_entry (args.map mcv) (n := y.2.2.1) (by rw [mEnt_len]; exact hlen)
  rw [lg_entry_eq]
  generalize (lg_sl (args.map mcv) ++ List.replicate (y.2.2.1 - (lg_sl (args.map mcv)).length) Slot.unset).toArray = ls at hl ⊢
  have hLs : mLs ls y.2.2.1 L := by
    refine ⟨hl.1, hl.2.1, fun i v hi hv => ?_⟩
    rw [← hL] at hi
    by_cases q : i < (mEnt args).length
    · rw [List.getElem?_append_left q] at hi
      have := mEnt_args args 0 i v hi hv
      rw [Nat.zero_add] at this
      exact hl.2.2 _ this
    · rw [List.getElem?_append_right (by omega)] at hi
      have := List.mem_of_getElem? hi
      rw [List.eq_of_mem_replicate this] at hv
      cases hv
  have ht : co.exceptionTable.toList = tableOf hs := by
    obtain ⟨m9, meth9, c9, hn9, h1, h2, -, -, h6, -⟩ := Cond.codeWith_spec (atoms_spec (ws := zW (yW y hs)) B.pre _ List.mem_cons_self)
    cases Option.some.inj (hn9.symm.trans B.named)
    cases Option.some.inj (h1.symm.trans B.method)
    cases Option.some.inj (h2.symm.trans (Stand.of_body B).code)
    rw [← h6, table_eq]
  have hA : mAt G y (d + 1) p (headSpec (zW (yW y hs)) { frames := d + 1, cells := 1, slots := 6, locals := 64 * (d + 1) }).room s m (args.map mcv).toArray meth co := ⟨B.exec, B.bytes, hml, B.returns, B.notSynchronized, (name_of_methodNamed B.named B.method).1, findClass_of_methodNamed B.named, hK, hh.use _, hh, hal, Nat.le_refl _, Nat.le_refl _⟩
  refine go p e _ s m (args.map mcv).toArray below meth co s.heap [] 0 0 ls _ hA hRep hLs (Nat.zero_le _) (Nat.zero_le _) ?_
  obtain ⟨hx, hb, hml9, hret, hlk, -, hown, hKK, hts, -, -, hfr, hlo⟩ := hA
  obtain ⟨hb1, cell, q1, q2, q3, q4⟩ := (hRep.2.2.2.2.2.2 b).1 c _ t9 hKb hcl hty
  have hbv : mcv (vr b) = .ref b := hRep.own hb1
  have hM' := hM
  unfold mCt at hM'
  rw [List.map_cons, hbv] at hM'
  rw [List.map_append, List.map_cons, hbv, List.map_reverse]
  refine xCallV (As := As.map mcv) (rest := st.map mcv) ⟨hx, hb, hml9, hown, hts⟩ hM' (C := y2.1.cls) (n := n) ⟨callB_of n hts (zGood h5 rfl) rfl rfl rfl (hts _ h4) (hts _ h1) hd2 (m_room hfr hlo hnL), hts _ h2, hts _ h3⟩ ⟨mPre_blind, ⟨cell, q1, by rw [q3]; rfl, by rw [q2, ← hr0]; exact (hKK.1 c _ hcl).2.1⟩, fun U hU hW9 => ⟨rfl, mPre_at hKK hh hal hRep hU hW9⟩⟩ (by rw [List.length_map]; exact hn) hLs.1 (by rw [m_cats]; show 2 * 0 + _ ≤ 8; omega) hd ⟨Nat.le_refl _, Nat.le_refl _⟩ (fun v9 st₀ t L9 h0 hwm hL9 hw hq => ?_) (fun x9 st₀ t L9 h0 hwm hL9 hw hq T9 hT9 X9 => ?_)
  · obtain ⟨a, ce, ho, -⟩ := hq
    cases ho
  · obtain ⟨a, ce, ho, hce, hv, hcl9, hrep⟩ := hq
    cases ho
    have hE : s.vm.findClass cls = some ce.cls := by rw [← hwm.alike.findClass]; exact hcl9
    refine xCatch1 hown x1 more (by rw [ht]; exact hsp) hcov hx0 (hts _ kl) (hts _ kc) hce hv hE ?_ hT9 X9
    refine lv_astore_n (lv := []) hx hb hd0 hk ⟨hLs.1, hLs.2.1, fun q hq => by cases hq⟩ hkl rfl (fun ls' hl' => ?_)
    refine lv_iconst (v := Int32.ofInt (v : Int)) hx hb hd1 rfl ?_
    exact W.zret hx hb (hret.trans hr) rfl (fun t2 ht2 hW2 => ⟨rfl, by rw [ht2]; exact hrep⟩) (fun q hq => hL9 q (by simpa using hq)) hd3 hlk
/-- as the first, but the exception goes into a far local -/
theorem mClW.firstF {c b idx n k v : Nat} {k0 : Fin 4} {cls : String} {r0 : vw_C} {t9 : Nat → FieldType} (hcl : vwCl[c]? = some r0) (hty : vwTy[c]? = some t9) (hr0 : r0.1 = y2.1.cls) (h1 : Cond.methodLink y.1.cls idx y2.1 ∈ lw_R) (h2 : Cond.instanceMethod y2.1 ∈ lw_R) (h3 : Cond.selects y2.1.cls y2.1 y2.1 ∈ lw_R) (h4 : Cond.initialized y2.1.cls ∈ lw_R) (h5 : yC y2 ∈ lw_R) (hd2 : y2.1.cls ≠ "java/lang/invoke/MethodHandle" ∧ y2.1.cls ≠ "java/lang/invoke/VarHandle" ∧ (parseMethodDescriptor y2.1.desc).map (fun d => d.parameters.length) = some n) (hnL : y2.2.2.1 ≤ 45) (hn : As.length = n) (hW : (st.map mcat).sum ≤ 8) (hd : decode y.2.1 pc = .ok (.invokevirtual idx, 3)) (hKb : mK M b = c + 1)
    (hp : plainName y.1.cls = true) (hlen : (mEnt args).length ≤ y.2.2.1) (hL : mEnt args ++ List.replicate (y.2.2.1 - (mEnt args).length) vd = L) (hr : y.2.2.2 = some .int) (hM : mCt G y2 d (vr b :: As) M cls) (go : mGo G y (d + 1) L M 0 [] pc (As.reverse ++ vr b :: st))
    (x1 : ExceptionTableEntry) (more : List ExceptionTableEntry) (hsp : tableOf hs = x1 :: more) (hcov : covers x1 pc = true) (hx0 : x1.catchType ≠ 0) (kl : Cond.classLink y.1.cls x1.catchType cls ∈ lw_R) (kc : Cond.castable cls cls ∈ lw_R) (hd0 : decode y.2.1 x1.handlerPc = .ok (.astore k, 2)) (hkl : k < y.2.2.1) (hd1 : decode y.2.1 (x1.handlerPc + 2) = .ok (.iconst (v : Int), 1)) (hd3 : decode y.2.1 (x1.handlerPc + 2 + 1) = .ok (.ireturn, 1)) : mClW G y hs (d + 1) args M (some (vi (v : Int))) (mNew M 50 0 6) := by
  refine ⟨⟨Nat.le_succ _, Nat.le_add_right _ _⟩, ?_⟩
  rw [show mZ (mNew M 50 0 6) - mZ M = 1 by show mZ M + 1 - mZ M = 1; omega, show mS (mNew M 50 0 6) - mS M = 6 by show mS M + 6 - mS M = 6; omega]
  refine va_MetW (cc := y.2.1) (maxL := y.2.2.1) (ret := y.2.2.2) (hh := hs) hp rfl ?_
  intro p e s m args9 below meth co s₁ B hml hv
  obtain ⟨rfl, hRep, hK, hh, hal⟩ := hv
  have hl := lv_entry (args.map mcv) (n := y.2.2.1) (by rw [mEnt_len]; exact hlen)
  rw [lg_entry_eq]
  generalize (lg_sl (args.map mcv) ++ List.replicate (y.2.2.1 - (lg_sl (args.map mcv)).length) Slot.unset).toArray = ls at hl ⊢
  have hLs : mLs ls y.2.2.1 L := by
    refine ⟨hl.1, hl.2.1, fun i v hi hv => ?_⟩
    rw [← hL] at hi
    by_cases q : i < (mEnt args).length
    · rw [List.getElem?_append_left q] at hi
      have := mEnt_args args 0 i v hi hv
      rw [Nat.zero_add] at this
      exact hl.2.2 _ this
    · rw [List.getElem?_append_right (by omega)] at hi
      have := List.mem_of_getElem? hi
      rw [List.eq_of_mem_replicate this] at hv
      cases hv
  have ht : co.exceptionTable.toList = tableOf hs := by
    obtain ⟨m9, meth9, c9, hn9, h1, h2, -, -, h6, -⟩ := Cond.codeWith_spec (atoms_spec (ws := zW (yW y hs)) B.pre _ List.mem_cons_self)
    cases Option.some.inj (hn9.symm.trans B.named)
    cases Option.some.inj (h1.symm.trans B.method)
    cases Option.some.inj (h2.symm.trans (Stand.of_body B).code)
    rw [← h6, table_eq]
  have hA : mAt G y (d + 1) p (headSpec (zW (yW y hs)) { frames := d + 1, cells := 1, slots := 6, locals := 64 * (d + 1) }).room s m (args.map mcv).toArray meth co := ⟨B.exec, B.bytes, hml, B.returns, B.notSynchronized, (name_of_methodNamed B.named B.method).1, findClass_of_methodNamed B.named, hK, hh.use _, hh, hal, Nat.le_refl _, Nat.le_refl _⟩
  refine go p e _ s m (args.map mcv).toArray below meth co s.heap [] 0 0 ls _ hA hRep hLs (Nat.zero_le _) (Nat.zero_le _) ?_
  obtain ⟨hx, hb, hml9, hret, hlk, -, hown, hKK, hts, -, -, hfr, hlo⟩ := hA
  obtain ⟨hb1, cell, q1, q2, q3, q4⟩ := (hRep.2.2.2.2.2.2 b).1 c _ t9 hKb hcl hty
  have hbv : mcv (vr b) = .ref b := hRep.own hb1
  have hM' := hM
  unfold mCt at hM'
  rw [List.map_cons, hbv] at hM'
  rw [List.map_append, List.map_cons, hbv, List.map_reverse]
  refine xCallV (As := As.map mcv) (rest := st.map mcv) ⟨hx, hb, hml9, hown, hts⟩ hM' (C := y2.1.cls) (n := n) ⟨callB_of n hts (zGood h5 rfl) rfl rfl rfl (hts _ h4) (hts _ h1) hd2 (m_room hfr hlo hnL), hts _ h2, hts _ h3⟩ ⟨mPre_blind, ⟨cell, q1, by rw [q3]; rfl, by rw [q2, ← hr0]; exact (hKK.1 c _ hcl).2.1⟩, fun U hU hW9 => ⟨rfl, mPre_at hKK hh hal hRep hU hW9⟩⟩ (by rw [List.length_map]; exact hn) hLs.1 (by rw [m_cats]; show 2 * 0 + _ ≤ 8; omega) hd ⟨Nat.le_refl _, Nat.le_refl _⟩ (fun v9 st₀ t L9 h0 hwm hL9 hw hq => ?_) (fun x9 st₀ t L9 h0 hwm hL9 hw hq T9 hT9 X9 => ?_)
  · obtain ⟨a, ce, ho, -⟩ := hq
    cases ho
  · obtain ⟨a, ce, ho, hce, hv, hcl9, hrep⟩ := hq
    cases ho
    have hE : s.vm.findClass cls = some ce.cls := by rw [← hwm.alike.findClass]; exact hcl9
    refine xCatch1 hown x1 more (by rw [ht]; exact hsp) hcov hx0 (hts _ kl) (hts _ kc) hce hv hE ?_ hT9 X9
    refine lv_astore (lv := []) hx hb hd0 ⟨hLs.1, hLs.2.1, fun q hq => by cases hq⟩ hkl rfl (fun ls' hl' => ?_)
    refine lv_iconst (v := Int32.ofInt (v : Int)) hx hb hd1 rfl ?_
    exact W.zret hx hb (hret.trans hr) rfl (fun t2 ht2 hW2 => ⟨rfl, by rw [ht2]; exact hrep⟩) (fun q hq => hL9 q (by simpa using hq)) hd3 hlk
/-- the second row takes it -/
theorem mClW.second {c b idx n k v : Nat} {k0 : Fin 4} {cls : String} {r0 : vw_C} {t9 : Nat → FieldType} (hcl : vwCl[c]? = some r0) (hty : vwTy[c]? = some t9) (hr0 : r0.1 = y2.1.cls) (h1 : Cond.methodLink y.1.cls idx y2.1 ∈ lw_R) (h2 : Cond.instanceMethod y2.1 ∈ lw_R) (h3 : Cond.selects y2.1.cls y2.1 y2.1 ∈ lw_R) (h4 : Cond.initialized y2.1.cls ∈ lw_R) (h5 : yC y2 ∈ lw_R) (hd2 : y2.1.cls ≠ "java/lang/invoke/MethodHandle" ∧ y2.1.cls ≠ "java/lang/invoke/VarHandle" ∧ (parseMethodDescriptor y2.1.desc).map (fun d => d.parameters.length) = some n) (hnL : y2.2.2.1 ≤ 45) (hn : As.length = n) (hW : (st.map mcat).sum ≤ 8) (hd : decode y.2.1 pc = .ok (.invokevirtual idx, 3)) (hKb : mK M b = c + 1)
    (hp : plainName y.1.cls = true) (hlen : (mEnt args).length ≤ y.2.2.1) (hL : mEnt args ++ List.replicate (y.2.2.1 - (mEnt args).length) vd = L) (hr : y.2.2.2 = some .int) (hM : mCt G y2 d (vr b :: As) M cls) (go : mGo G y (d + 1) L M 0 [] pc (As.reverse ++ vr b :: st))
    {cls1 : String} (x1 x2 : ExceptionTableEntry) (more : List ExceptionTableEntry) (hsp : tableOf hs = x1 :: x2 :: more) (hcov1 : covers x1 pc = true) (hx01 : x1.catchType ≠ 0) (hcov : covers x2 pc = true) (hx0 : x2.catchType ≠ 0) (kl1 : Cond.classLink y.1.cls x1.catchType cls1 ∈ lw_R) (hNo : va_Nc cls cls1 (gS G)) (kl : Cond.classLink y.1.cls x2.catchType cls ∈ lw_R) (kc : Cond.castable cls cls ∈ lw_R) (hd0 : decode y.2.1 x2.handlerPc = .ok (.astore_n k0, 1)) (hk : (k0 : Nat) = k) (hkl : k < y.2.2.1) (hd1 : decode y.2.1 (x2.handlerPc + 1) = .ok (.iconst (v : Int), 1)) (hd3 : decode y.2.1 (x2.handlerPc + 1 + 1) = .ok (.ireturn, 1)) : mClW G y hs (d + 1) args M (some (vi (v : Int))) (mNew M 50 0 6) := by
  refine ⟨⟨Nat.le_succ _, Nat.le_add_right _ _⟩, ?_⟩
  rw [show mZ (mNew M 50 0 6) - mZ M = 1 by show mZ M + 1 - mZ M = 1; omega, show mS (mNew M 50 0 6) - mS M = 6 by show mS M + 6 - mS M = 6; omega]
  refine va_MetW (cc := y.2.1) (maxL := y.2.2.1) (ret := y.2.2.2) (hh := hs) hp rfl ?_
  intro p e s m args9 below meth co s₁ B hml hv
  obtain ⟨rfl, hRep, hK, hh, hal⟩ := hv
  have hl := lv_entry (args.map mcv) (n := y.2.2.1) (by rw [mEnt_len]; exact hlen)
  rw [lg_entry_eq]
  generalize (lg_sl (args.map mcv) ++ List.replicate (y.2.2.1 - (lg_sl (args.map mcv)).length) Slot.unset).toArray = ls at hl ⊢
  have hLs : mLs ls y.2.2.1 L := by
    refine ⟨hl.1, hl.2.1, fun i v hi hv => ?_⟩
    rw [← hL] at hi
    by_cases q : i < (mEnt args).length
    · rw [List.getElem?_append_left q] at hi
      have := mEnt_args args 0 i v hi hv
      rw [Nat.zero_add] at this
      exact hl.2.2 _ this
    · rw [List.getElem?_append_right (by omega)] at hi
      have := List.mem_of_getElem? hi
      rw [List.eq_of_mem_replicate this] at hv
      cases hv
  have ht : co.exceptionTable.toList = tableOf hs := by
    obtain ⟨m9, meth9, c9, hn9, h1, h2, -, -, h6, -⟩ := Cond.codeWith_spec (atoms_spec (ws := zW (yW y hs)) B.pre _ List.mem_cons_self)
    cases Option.some.inj (hn9.symm.trans B.named)
    cases Option.some.inj (h1.symm.trans B.method)
    cases Option.some.inj (h2.symm.trans (Stand.of_body B).code)
    rw [← h6, table_eq]
  have hA : mAt G y (d + 1) p (headSpec (zW (yW y hs)) { frames := d + 1, cells := 1, slots := 6, locals := 64 * (d + 1) }).room s m (args.map mcv).toArray meth co := ⟨B.exec, B.bytes, hml, B.returns, B.notSynchronized, (name_of_methodNamed B.named B.method).1, findClass_of_methodNamed B.named, hK, hh.use _, hh, hal, Nat.le_refl _, Nat.le_refl _⟩
  refine go p e _ s m (args.map mcv).toArray below meth co s.heap [] 0 0 ls _ hA hRep hLs (Nat.zero_le _) (Nat.zero_le _) ?_
  obtain ⟨hx, hb, hml9, hret, hlk, -, hown, hKK, hts, -, -, hfr, hlo⟩ := hA
  obtain ⟨hb1, cell, q1, q2, q3, q4⟩ := (hRep.2.2.2.2.2.2 b).1 c _ t9 hKb hcl hty
  have hbv : mcv (vr b) = .ref b := hRep.own hb1
  have hM' := hM
  unfold mCt at hM'
  rw [List.map_cons, hbv] at hM'
  rw [List.map_append, List.map_cons, hbv, List.map_reverse]
  refine xCallV (As := As.map mcv) (rest := st.map mcv) ⟨hx, hb, hml9, hown, hts⟩ hM' (C := y2.1.cls) (n := n) ⟨callB_of n hts (zGood h5 rfl) rfl rfl rfl (hts _ h4) (hts _ h1) hd2 (m_room hfr hlo hnL), hts _ h2, hts _ h3⟩ ⟨mPre_blind, ⟨cell, q1, by rw [q3]; rfl, by rw [q2, ← hr0]; exact (hKK.1 c _ hcl).2.1⟩, fun U hU hW9 => ⟨rfl, mPre_at hKK hh hal hRep hU hW9⟩⟩ (by rw [List.length_map]; exact hn) hLs.1 (by rw [m_cats]; show 2 * 0 + _ ≤ 8; omega) hd ⟨Nat.le_refl _, Nat.le_refl _⟩ (fun v9 st₀ t L9 h0 hwm hL9 hw hq => ?_) (fun x9 st₀ t L9 h0 hwm hL9 hw hq T9 hT9 X9 => ?_)
  · obtain ⟨a, ce, ho, -⟩ := hq
    cases ho
  · obtain ⟨a, ce, ho, hce, hv, hcl9, hrep⟩ := hq
    cases ho
    have hE : s.vm.findClass cls = some ce.cls := by rw [← hwm.alike.findClass]; exact hcl9
    refine xCatch2 hown x1 x2 more (by rw [ht]; exact hsp) hcov1 hx01 hcov hx0 (hts _ kl1) (hNo.moved hal.1) (hts _ kl) (hts _ kc) hce hv hE ?_ hT9 X9
    refine lv_astore_n (lv := []) hx hb hd0 hk ⟨hLs.1, hLs.2.1, fun q hq => by cases hq⟩ hkl rfl (fun ls' hl' => ?_)
    refine lv_iconst (v := Int32.ofInt (v : Int)) hx hb hd1 rfl ?_
    exact W.zret hx hb (hret.trans hr) rfl (fun t2 ht2 hW2 => ⟨rfl, by rw [ht2]; exact hrep⟩) (fun q hq => hL9 q (by simpa using hq)) hd3 hlk
end HEL
end
section
/-! The law's helpers where the class throws. -/
def y_La_end : mY := (({ cls := "ChanceArenaLaw", name := "end", desc := "(LChanceArena;I[J)I" } : Jvm.MethodName), method_3_code, 4, (Option.some Jvm.ClassFile.FieldType.int))
def hs_end : List (Nat × Nat × Nat × Nat) := [(0, 9, 12, 13)]
theorem d_La_end_0 : decode y_La_end.2.1 0 = .ok (.aload_n 2, 1) := dc9_44 (by decide +kernel)
theorem d_La_end_1 : decode y_La_end.2.1 1 = .ok (.iconst 0, 1) := dc9_3 (by decide +kernel)
theorem d_La_end_2 : decode y_La_end.2.1 2 = .ok (.aload_n 0, 1) := dc9_42 (by decide +kernel)
theorem d_La_end_3 : decode y_La_end.2.1 3 = .ok (.iload_n 1, 1) := dc9_27 (by decide +kernel)
theorem d_La_end_4 : decode y_La_end.2.1 4 = .ok (.invokevirtual 7, 3) := dc9_182 (by decide +kernel)
theorem d_La_end_7 : decode y_La_end.2.1 7 = .ok (.i2l, 1) := dc9_133 (by decide +kernel)
theorem d_La_end_8 : decode y_La_end.2.1 8 = .ok (.lastore, 1) := dc9_80 (by decide +kernel)
theorem d_La_end_9 : decode y_La_end.2.1 9 = .ok (.goto 6, 3) := dc9_167 (by decide +kernel)
theorem d_La_end_12 : decode y_La_end.2.1 12 = .ok (.astore_n 3, 1) := dc9_78 (by decide +kernel)
theorem d_La_end_13 : decode y_La_end.2.1 13 = .ok (.iconst 1, 1) := dc9_4 (by decide +kernel)
theorem d_La_end_14 : decode y_La_end.2.1 14 = .ok (.ireturn, 1) := dc9_172 (by decide +kernel)
theorem d_La_end_15 : decode y_La_end.2.1 15 = .ok (.iconst 0, 1) := dc9_3 (by decide +kernel)
theorem d_La_end_16 : decode y_La_end.2.1 16 = .ok (.ireturn, 1) := dc9_172 (by decide +kernel)
theorem kh_7_176 : (Jvm.Cond.methodLink "ChanceArenaLaw" (7 : Nat) ({ cls := "ChanceArena", name := "end", desc := "(I)I" } : Jvm.MethodName)) ∈ lw_R := zR (zk_7 _ (List.mem_of_getElem? (i := 188) rfl)) rfl
theorem kh_7_177 : (Jvm.Cond.instanceMethod ({ cls := "ChanceArena", name := "end", desc := "(I)I" } : Jvm.MethodName)) ∈ lw_R := zR (zk_7 _ (List.mem_of_getElem? (i := 189) rfl)) rfl
theorem kh_7_178 : (Jvm.Cond.selects "ChanceArena" ({ cls := "ChanceArena", name := "end", desc := "(I)I" } : Jvm.MethodName) ({ cls := "ChanceArena", name := "end", desc := "(I)I" } : Jvm.MethodName)) ∈ lw_R := zR (zk_7 _ (List.mem_of_getElem? (i := 190) rfl)) rfl
theorem kh_7_179 : (Jvm.Cond.code ({ cls := "ChanceArena", name := "end", desc := "(I)I" } : Jvm.MethodName) prog_1_method_5_code (2 : Nat) (Option.some Jvm.ClassFile.FieldType.int)) ∈ lw_R := zR (zk_7 _ (List.mem_of_getElem? (i := 191) rfl)) rfl
theorem kh_7_175 : (Jvm.Cond.classLink "ChanceArenaLaw" (13 : Nat) "java/lang/IllegalArgumentException") ∈ lw_R := zR (zk_7 _ (List.mem_of_getElem? (i := 187) rfl)) rfl
theorem kh_6_8 : (Jvm.Cond.castable "java/lang/IllegalArgumentException" "java/lang/IllegalArgumentException") ∈ lw_R := zR (zk_6 _ (List.mem_of_getElem? (i := 20) rfl)) rfl
theorem x_La_end {G : mG} {M : mM} {d t o : Nat} {l l1 l2 : Int} (kt : mK M t = 1) (hM : mCt G y_CA_end d [vr t, vi l] M "java/lang/IllegalArgumentException") : mClW G y_La_end hs_end (d + 1) [vr t, vi l, vr o] M (some (vi 1)) (mNew M 50 0 6) := by
  refine mClW.first (y2 := y_CA_end) (As := [vi l]) (st := [vi 0, vr o]) (pc := 4) (c := 0) (n := 1) (k := 3) (v := 1) (L := [vr t, vi l, vr o, vd]) rfl rfl rfl kh_7_176 kh_7_177 kh_7_178 k1_1 kh_7_179 ⟨by decide, by decide, by decide +kernel⟩ (by decide) rfl (Nat.le_of_ble_eq_true rfl) d_La_end_4 kt rfl (Nat.le_of_ble_eq_true rfl) rfl rfl hM ?_ ⟨0, 9, 12, 13⟩ [] rfl (by decide) (by decide) kh_7_175 kh_6_8 d_La_end_12 rfl (by decide) d_La_end_13 d_La_end_14
  refine go_aload_n d_La_end_0 rfl rfl ?_
  refine go_iconst d_La_end_1 ?_
  refine go_aload_n d_La_end_2 rfl rfl ?_
  refine go_iload_n d_La_end_3 rfl rfl ?_
  exact mGo.refl
def y_La_explore : mY := (({ cls := "ChanceArenaLaw", name := "explore", desc := "(LChanceArena;[J)I" } : Jvm.MethodName), method_4_code, 3, (Option.some Jvm.ClassFile.FieldType.int))
def hs_explore : List (Nat × Nat × Nat × Nat) := [(0, 8, 11, 19)]
theorem d_La_explore_0 : decode y_La_explore.2.1 0 = .ok (.aload_n 1, 1) := dc9_43 (by decide +kernel)
theorem d_La_explore_1 : decode y_La_explore.2.1 1 = .ok (.iconst 0, 1) := dc9_3 (by decide +kernel)
theorem d_La_explore_2 : decode y_La_explore.2.1 2 = .ok (.aload_n 0, 1) := dc9_42 (by decide +kernel)
theorem d_La_explore_3 : decode y_La_explore.2.1 3 = .ok (.invokevirtual 15, 3) := dc9_182 (by decide +kernel)
theorem d_La_explore_6 : decode y_La_explore.2.1 6 = .ok (.i2l, 1) := dc9_133 (by decide +kernel)
theorem d_La_explore_7 : decode y_La_explore.2.1 7 = .ok (.lastore, 1) := dc9_80 (by decide +kernel)
theorem d_La_explore_8 : decode y_La_explore.2.1 8 = .ok (.goto 6, 3) := dc9_167 (by decide +kernel)
theorem d_La_explore_11 : decode y_La_explore.2.1 11 = .ok (.astore_n 2, 1) := dc9_77 (by decide +kernel)
theorem d_La_explore_12 : decode y_La_explore.2.1 12 = .ok (.iconst 1, 1) := dc9_4 (by decide +kernel)
theorem d_La_explore_13 : decode y_La_explore.2.1 13 = .ok (.ireturn, 1) := dc9_172 (by decide +kernel)
theorem d_La_explore_14 : decode y_La_explore.2.1 14 = .ok (.iconst 0, 1) := dc9_3 (by decide +kernel)
theorem d_La_explore_15 : decode y_La_explore.2.1 15 = .ok (.ireturn, 1) := dc9_172 (by decide +kernel)
theorem kh_7_195 : (Jvm.Cond.methodLink "ChanceArenaLaw" (15 : Nat) ({ cls := "ChanceArena", name := "explore", desc := "()I" } : Jvm.MethodName)) ∈ lw_R := zR (zk_7 _ (List.mem_of_getElem? (i := 207) rfl)) rfl
theorem kh_7_196 : (Jvm.Cond.instanceMethod ({ cls := "ChanceArena", name := "explore", desc := "()I" } : Jvm.MethodName)) ∈ lw_R := zR (zk_7 _ (List.mem_of_getElem? (i := 208) rfl)) rfl
theorem kh_7_197 : (Jvm.Cond.selects "ChanceArena" ({ cls := "ChanceArena", name := "explore", desc := "()I" } : Jvm.MethodName) ({ cls := "ChanceArena", name := "explore", desc := "()I" } : Jvm.MethodName)) ∈ lw_R := zR (zk_7 _ (List.mem_of_getElem? (i := 209) rfl)) rfl
theorem kh_7_198 : (Jvm.Cond.code ({ cls := "ChanceArena", name := "explore", desc := "()I" } : Jvm.MethodName) prog_1_method_10_code (2 : Nat) (Option.some Jvm.ClassFile.FieldType.int)) ∈ lw_R := zR (zk_7 _ (List.mem_of_getElem? (i := 210) rfl)) rfl
theorem kh_7_194 : (Jvm.Cond.classLink "ChanceArenaLaw" (19 : Nat) "java/lang/IllegalStateException") ∈ lw_R := zR (zk_7 _ (List.mem_of_getElem? (i := 206) rfl)) rfl
theorem kh_7_201 : (Jvm.Cond.castable "java/lang/IllegalStateException" "java/lang/IllegalStateException") ∈ lw_R := zR (zk_7 _ (List.mem_of_getElem? (i := 213) rfl)) rfl
theorem x_La_explore {G : mG} {M : mM} {d t o : Nat} {l l1 l2 : Int} (kt : mK M t = 1) (hM : mCt G y_CA_explore d [vr t] M "java/lang/IllegalStateException") : mClW G y_La_explore hs_explore (d + 1) [vr t, vr o] M (some (vi 1)) (mNew M 50 0 6) := by
  refine mClW.first (y2 := y_CA_explore) (As := []) (st := [vi 0, vr o]) (pc := 3) (c := 0) (n := 0) (k := 2) (v := 1) (L := [vr t, vr o, vd]) rfl rfl rfl kh_7_195 kh_7_196 kh_7_197 k1_1 kh_7_198 ⟨by decide, by decide, by decide +kernel⟩ (by decide) rfl (Nat.le_of_ble_eq_true rfl) d_La_explore_3 kt rfl (Nat.le_of_ble_eq_true rfl) rfl rfl hM ?_ ⟨0, 8, 11, 19⟩ [] rfl (by decide) (by decide) kh_7_194 kh_7_201 d_La_explore_11 rfl (by decide) d_La_explore_12 d_La_explore_13
  refine go_aload_n d_La_explore_0 rfl rfl ?_
  refine go_iconst d_La_explore_1 ?_
  refine go_aload_n d_La_explore_2 rfl rfl ?_
  exact mGo.refl
def y_La_variable : mY := (({ cls := "ChanceArenaLaw", name := "variable", desc := "(LChanceArena;II[J)I" } : Jvm.MethodName), method_5_code, 5, (Option.some Jvm.ClassFile.FieldType.int))
def hs_variable : List (Nat × Nat × Nat × Nat) := [(0, 10, 13, 25)]
theorem d_La_variable_0 : decode y_La_variable.2.1 0 = .ok (.aload_n 3, 1) := dc9_45 (by decide +kernel)
theorem d_La_variable_1 : decode y_La_variable.2.1 1 = .ok (.iconst 0, 1) := dc9_3 (by decide +kernel)
theorem d_La_variable_2 : decode y_La_variable.2.1 2 = .ok (.aload_n 0, 1) := dc9_42 (by decide +kernel)
theorem d_La_variable_3 : decode y_La_variable.2.1 3 = .ok (.iload_n 1, 1) := dc9_27 (by decide +kernel)
theorem d_La_variable_4 : decode y_La_variable.2.1 4 = .ok (.iload_n 2, 1) := dc9_28 (by decide +kernel)
theorem d_La_variable_5 : decode y_La_variable.2.1 5 = .ok (.invokevirtual 21, 3) := dc9_182 (by decide +kernel)
theorem d_La_variable_8 : decode y_La_variable.2.1 8 = .ok (.i2l, 1) := dc9_133 (by decide +kernel)
theorem d_La_variable_9 : decode y_La_variable.2.1 9 = .ok (.lastore, 1) := dc9_80 (by decide +kernel)
theorem d_La_variable_10 : decode y_La_variable.2.1 10 = .ok (.goto 7, 3) := dc9_167 (by decide +kernel)
theorem d_La_variable_13 : decode y_La_variable.2.1 13 = .ok (.astore 4, 2) := dc9_58 (by decide +kernel)
theorem d_La_variable_15 : decode y_La_variable.2.1 15 = .ok (.iconst 1, 1) := dc9_4 (by decide +kernel)
theorem d_La_variable_16 : decode y_La_variable.2.1 16 = .ok (.ireturn, 1) := dc9_172 (by decide +kernel)
theorem d_La_variable_17 : decode y_La_variable.2.1 17 = .ok (.iconst 0, 1) := dc9_3 (by decide +kernel)
theorem d_La_variable_18 : decode y_La_variable.2.1 18 = .ok (.ireturn, 1) := dc9_172 (by decide +kernel)
theorem kh_8_31 : (Jvm.Cond.methodLink "ChanceArenaLaw" (21 : Nat) ({ cls := "ChanceArena", name := "variable", desc := "(II)I" } : Jvm.MethodName)) ∈ lw_R := zR (zk_8 _ (List.mem_of_getElem? (i := 43) rfl)) rfl
theorem kh_8_32 : (Jvm.Cond.instanceMethod ({ cls := "ChanceArena", name := "variable", desc := "(II)I" } : Jvm.MethodName)) ∈ lw_R := zR (zk_8 _ (List.mem_of_getElem? (i := 44) rfl)) rfl
theorem kh_8_33 : (Jvm.Cond.selects "ChanceArena" ({ cls := "ChanceArena", name := "variable", desc := "(II)I" } : Jvm.MethodName) ({ cls := "ChanceArena", name := "variable", desc := "(II)I" } : Jvm.MethodName)) ∈ lw_R := zR (zk_8 _ (List.mem_of_getElem? (i := 45) rfl)) rfl
theorem kh_8_34 : (Jvm.Cond.code ({ cls := "ChanceArena", name := "variable", desc := "(II)I" } : Jvm.MethodName) prog_1_method_13_code (3 : Nat) (Option.some Jvm.ClassFile.FieldType.int)) ∈ lw_R := zR (zk_8 _ (List.mem_of_getElem? (i := 46) rfl)) rfl
theorem kh_8_30 : (Jvm.Cond.classLink "ChanceArenaLaw" (25 : Nat) "java/lang/IndexOutOfBoundsException") ∈ lw_R := zR (zk_8 _ (List.mem_of_getElem? (i := 42) rfl)) rfl
theorem kh_8_37 : (Jvm.Cond.castable "java/lang/IndexOutOfBoundsException" "java/lang/IndexOutOfBoundsException") ∈ lw_R := zR (zk_8 _ (List.mem_of_getElem? (i := 49) rfl)) rfl
theorem x_La_variable {G : mG} {M : mM} {d t o : Nat} {l l1 l2 : Int} (kt : mK M t = 1) (hM : mCt G y_CA_variable d [vr t, vi l1, vi l2] M "java/lang/IndexOutOfBoundsException") : mClW G y_La_variable hs_variable (d + 1) [vr t, vi l1, vi l2, vr o] M (some (vi 1)) (mNew M 50 0 6) := by
  refine mClW.firstF (k0 := 0) (y2 := y_CA_variable) (As := [vi l1, vi l2]) (st := [vi 0, vr o]) (pc := 5) (c := 0) (n := 2) (k := 4) (v := 1) (L := [vr t, vi l1, vi l2, vr o, vd]) rfl rfl rfl kh_8_31 kh_8_32 kh_8_33 k1_1 kh_8_34 ⟨by decide, by decide, by decide +kernel⟩ (by decide) rfl (Nat.le_of_ble_eq_true rfl) d_La_variable_5 kt rfl (Nat.le_of_ble_eq_true rfl) rfl rfl hM ?_ ⟨0, 10, 13, 25⟩ [] rfl (by decide) (by decide) kh_8_30 kh_8_37 d_La_variable_13 (by decide) d_La_variable_15 d_La_variable_16
  refine go_aload_n d_La_variable_0 rfl rfl ?_
  refine go_iconst d_La_variable_1 ?_
  refine go_aload_n d_La_variable_2 rfl rfl ?_
  refine go_iload_n d_La_variable_3 rfl rfl ?_
  refine go_iload_n d_La_variable_4 rfl rfl ?_
  exact mGo.refl
def y_La_solve : mY := (({ cls := "ChanceArenaLaw", name := "solve", desc := "(LChanceArena;[J)I" } : Jvm.MethodName), method_6_code, 3, (Option.some Jvm.ClassFile.FieldType.int))
def hs_solve : List (Nat × Nat × Nat × Nat) := [(0, 8, 11, 19)]
theorem d_La_solve_0 : decode y_La_solve.2.1 0 = .ok (.aload_n 1, 1) := dc9_43 (by decide +kernel)
theorem d_La_solve_1 : decode y_La_solve.2.1 1 = .ok (.iconst 0, 1) := dc9_3 (by decide +kernel)
theorem d_La_solve_2 : decode y_La_solve.2.1 2 = .ok (.aload_n 0, 1) := dc9_42 (by decide +kernel)
theorem d_La_solve_3 : decode y_La_solve.2.1 3 = .ok (.invokevirtual 27, 3) := dc9_182 (by decide +kernel)
theorem d_La_solve_6 : decode y_La_solve.2.1 6 = .ok (.i2l, 1) := dc9_133 (by decide +kernel)
theorem d_La_solve_7 : decode y_La_solve.2.1 7 = .ok (.lastore, 1) := dc9_80 (by decide +kernel)
theorem d_La_solve_8 : decode y_La_solve.2.1 8 = .ok (.goto 6, 3) := dc9_167 (by decide +kernel)
theorem d_La_solve_11 : decode y_La_solve.2.1 11 = .ok (.astore_n 2, 1) := dc9_77 (by decide +kernel)
theorem d_La_solve_12 : decode y_La_solve.2.1 12 = .ok (.iconst 1, 1) := dc9_4 (by decide +kernel)
theorem d_La_solve_13 : decode y_La_solve.2.1 13 = .ok (.ireturn, 1) := dc9_172 (by decide +kernel)
theorem d_La_solve_14 : decode y_La_solve.2.1 14 = .ok (.iconst 0, 1) := dc9_3 (by decide +kernel)
theorem d_La_solve_15 : decode y_La_solve.2.1 15 = .ok (.ireturn, 1) := dc9_172 (by decide +kernel)
theorem kh_8_53 : (Jvm.Cond.methodLink "ChanceArenaLaw" (27 : Nat) ({ cls := "ChanceArena", name := "solve", desc := "()I" } : Jvm.MethodName)) ∈ lw_R := zR (zk_8 _ (List.mem_of_getElem? (i := 65) rfl)) rfl
theorem kh_8_54 : (Jvm.Cond.instanceMethod ({ cls := "ChanceArena", name := "solve", desc := "()I" } : Jvm.MethodName)) ∈ lw_R := zR (zk_8 _ (List.mem_of_getElem? (i := 66) rfl)) rfl
theorem kh_8_55 : (Jvm.Cond.selects "ChanceArena" ({ cls := "ChanceArena", name := "solve", desc := "()I" } : Jvm.MethodName) ({ cls := "ChanceArena", name := "solve", desc := "()I" } : Jvm.MethodName)) ∈ lw_R := zR (zk_8 _ (List.mem_of_getElem? (i := 67) rfl)) rfl
theorem kh_8_56 : (Jvm.Cond.code ({ cls := "ChanceArena", name := "solve", desc := "()I" } : Jvm.MethodName) prog_1_method_19_code (2 : Nat) (Option.some Jvm.ClassFile.FieldType.int)) ∈ lw_R := zR (zk_8 _ (List.mem_of_getElem? (i := 68) rfl)) rfl
theorem x_La_solve {G : mG} {M : mM} {d t o : Nat} {l l1 l2 : Int} (kt : mK M t = 1) (hM : mCt G y_CA_solve d [vr t] M "java/lang/IllegalStateException") : mClW G y_La_solve hs_solve (d + 1) [vr t, vr o] M (some (vi 1)) (mNew M 50 0 6) := by
  refine mClW.first (y2 := y_CA_solve) (As := []) (st := [vi 0, vr o]) (pc := 3) (c := 0) (n := 0) (k := 2) (v := 1) (L := [vr t, vr o, vd]) rfl rfl rfl kh_8_53 kh_8_54 kh_8_55 k1_1 kh_8_56 ⟨by decide, by decide, by decide +kernel⟩ (by decide) rfl (Nat.le_of_ble_eq_true rfl) d_La_solve_3 kt rfl (Nat.le_of_ble_eq_true rfl) rfl rfl hM ?_ ⟨0, 8, 11, 19⟩ [] rfl (by decide) (by decide) kh_7_194 kh_7_201 d_La_solve_11 rfl (by decide) d_La_solve_12 d_La_solve_13
  refine go_aload_n d_La_solve_0 rfl rfl ?_
  refine go_iconst d_La_solve_1 ?_
  refine go_aload_n d_La_solve_2 rfl rfl ?_
  exact mGo.refl
def y_La_within : mY := (({ cls := "ChanceArenaLaw", name := "within", desc := "(LChanceArena;I[J)I" } : Jvm.MethodName), method_7_code, 4, (Option.some Jvm.ClassFile.FieldType.int))
def hs_within : List (Nat × Nat × Nat × Nat) := [(0, 9, 12, 13), (0, 9, 15, 19)]
theorem d_La_within_0 : decode y_La_within.2.1 0 = .ok (.aload_n 2, 1) := dc9_44 (by decide +kernel)
theorem d_La_within_1 : decode y_La_within.2.1 1 = .ok (.iconst 0, 1) := dc9_3 (by decide +kernel)
theorem d_La_within_2 : decode y_La_within.2.1 2 = .ok (.aload_n 0, 1) := dc9_42 (by decide +kernel)
theorem d_La_within_3 : decode y_La_within.2.1 3 = .ok (.iload_n 1, 1) := dc9_27 (by decide +kernel)
theorem d_La_within_4 : decode y_La_within.2.1 4 = .ok (.invokevirtual 30, 3) := dc9_182 (by decide +kernel)
theorem d_La_within_7 : decode y_La_within.2.1 7 = .ok (.i2l, 1) := dc9_133 (by decide +kernel)
theorem d_La_within_8 : decode y_La_within.2.1 8 = .ok (.lastore, 1) := dc9_80 (by decide +kernel)
theorem d_La_within_9 : decode y_La_within.2.1 9 = .ok (.goto 9, 3) := dc9_167 (by decide +kernel)
theorem d_La_within_12 : decode y_La_within.2.1 12 = .ok (.astore_n 3, 1) := dc9_78 (by decide +kernel)
theorem d_La_within_13 : decode y_La_within.2.1 13 = .ok (.iconst 1, 1) := dc9_4 (by decide +kernel)
theorem d_La_within_14 : decode y_La_within.2.1 14 = .ok (.ireturn, 1) := dc9_172 (by decide +kernel)
theorem d_La_within_15 : decode y_La_within.2.1 15 = .ok (.astore_n 3, 1) := dc9_78 (by decide +kernel)
theorem d_La_within_16 : decode y_La_within.2.1 16 = .ok (.iconst 2, 1) := dc9_5 (by decide +kernel)
theorem d_La_within_17 : decode y_La_within.2.1 17 = .ok (.ireturn, 1) := dc9_172 (by decide +kernel)
theorem d_La_within_18 : decode y_La_within.2.1 18 = .ok (.iconst 0, 1) := dc9_3 (by decide +kernel)
theorem d_La_within_19 : decode y_La_within.2.1 19 = .ok (.ireturn, 1) := dc9_172 (by decide +kernel)
theorem kh_8_160 : (Jvm.Cond.methodLink "ChanceArenaLaw" (30 : Nat) ({ cls := "ChanceArena", name := "within", desc := "(I)I" } : Jvm.MethodName)) ∈ lw_R := zR (zk_8 _ (List.mem_of_getElem? (i := 195) rfl)) rfl
theorem kh_8_161 : (Jvm.Cond.instanceMethod ({ cls := "ChanceArena", name := "within", desc := "(I)I" } : Jvm.MethodName)) ∈ lw_R := zR (zk_8 _ (List.mem_of_getElem? (i := 196) rfl)) rfl
theorem kh_8_162 : (Jvm.Cond.selects "ChanceArena" ({ cls := "ChanceArena", name := "within", desc := "(I)I" } : Jvm.MethodName) ({ cls := "ChanceArena", name := "within", desc := "(I)I" } : Jvm.MethodName)) ∈ lw_R := zR (zk_8 _ (List.mem_of_getElem? (i := 197) rfl)) rfl
theorem kh_8_163 : (Jvm.Cond.code ({ cls := "ChanceArena", name := "within", desc := "(I)I" } : Jvm.MethodName) prog_1_method_20_code (4 : Nat) (Option.some Jvm.ClassFile.FieldType.int)) ∈ lw_R := zR (zk_8 _ (List.mem_of_getElem? (i := 198) rfl)) rfl
theorem x_La_within1 {G : mG} {M : mM} {d t o : Nat} {l l1 l2 : Int} (kt : mK M t = 1) (hM : mCt G y_CA_within d [vr t, vi l] M "java/lang/IllegalArgumentException") : mClW G y_La_within hs_within (d + 1) [vr t, vi l, vr o] M (some (vi 1)) (mNew M 50 0 6) := by
  refine mClW.first (y2 := y_CA_within) (As := [vi l]) (st := [vi 0, vr o]) (pc := 4) (c := 0) (n := 1) (k := 3) (v := 1) (L := [vr t, vi l, vr o, vd]) rfl rfl rfl kh_8_160 kh_8_161 kh_8_162 k1_1 kh_8_163 ⟨by decide, by decide, by decide +kernel⟩ (by decide) rfl (Nat.le_of_ble_eq_true rfl) d_La_within_4 kt rfl (Nat.le_of_ble_eq_true rfl) rfl rfl hM ?_ ⟨0, 9, 12, 13⟩ [⟨0, 9, 15, 19⟩] rfl (by decide) (by decide) kh_7_175 kh_6_8 d_La_within_12 rfl (by decide) d_La_within_13 d_La_within_14
  refine go_aload_n d_La_within_0 rfl rfl ?_
  refine go_iconst d_La_within_1 ?_
  refine go_aload_n d_La_within_2 rfl rfl ?_
  refine go_iload_n d_La_within_3 rfl rfl ?_
  exact mGo.refl
theorem x_La_within2 {G : mG} {M : mM} {d t o : Nat} {l l1 l2 : Int} (kt : mK M t = 1) (hNo : va_Nc "java/lang/IllegalStateException" "java/lang/IllegalArgumentException" (gS G)) (hM : mCt G y_CA_within d [vr t, vi l] M "java/lang/IllegalStateException") : mClW G y_La_within hs_within (d + 1) [vr t, vi l, vr o] M (some (vi 2)) (mNew M 50 0 6) := by
  refine mClW.second (y2 := y_CA_within) (As := [vi l]) (st := [vi 0, vr o]) (pc := 4) (c := 0) (n := 1) (k := 3) (v := 2) (L := [vr t, vi l, vr o, vd]) rfl rfl rfl kh_8_160 kh_8_161 kh_8_162 k1_1 kh_8_163 ⟨by decide, by decide, by decide +kernel⟩ (by decide) rfl (Nat.le_of_ble_eq_true rfl) d_La_within_4 kt rfl (Nat.le_of_ble_eq_true rfl) rfl rfl hM ?_ (cls1 := "java/lang/IllegalArgumentException") ⟨0, 9, 12, 13⟩ ⟨0, 9, 15, 19⟩ [] rfl (by decide) (by decide) (by decide) (by decide) kh_7_175 hNo kh_7_194 kh_7_201 d_La_within_15 rfl (by decide) d_La_within_16 d_La_within_17
  refine go_aload_n d_La_within_0 rfl rfl ?_
  refine go_iconst d_La_within_1 ?_
  refine go_aload_n d_La_within_2 rfl rfl ?_
  refine go_iload_n d_La_within_3 rfl rfl ?_
  exact mGo.refl
def y_La_choose : mY := (({ cls := "ChanceArenaLaw", name := "choose", desc := "(LChanceArena;II)I" } : Jvm.MethodName), method_8_code, 4, (Option.some Jvm.ClassFile.FieldType.int))
def hs_choose : List (Nat × Nat × Nat × Nat) := [(0, 6, 9, 25)]
theorem d_La_choose_0 : decode y_La_choose.2.1 0 = .ok (.aload_n 0, 1) := dc9_42 (by decide +kernel)
theorem d_La_choose_1 : decode y_La_choose.2.1 1 = .ok (.iload_n 1, 1) := dc9_27 (by decide +kernel)
theorem d_La_choose_2 : decode y_La_choose.2.1 2 = .ok (.iload_n 2, 1) := dc9_28 (by decide +kernel)
theorem d_La_choose_3 : decode y_La_choose.2.1 3 = .ok (.invokevirtual 33, 3) := dc9_182 (by decide +kernel)
theorem d_La_choose_6 : decode y_La_choose.2.1 6 = .ok (.goto 6, 3) := dc9_167 (by decide +kernel)
theorem d_La_choose_9 : decode y_La_choose.2.1 9 = .ok (.astore_n 3, 1) := dc9_78 (by decide +kernel)
theorem d_La_choose_10 : decode y_La_choose.2.1 10 = .ok (.iconst 1, 1) := dc9_4 (by decide +kernel)
theorem d_La_choose_11 : decode y_La_choose.2.1 11 = .ok (.ireturn, 1) := dc9_172 (by decide +kernel)
theorem d_La_choose_12 : decode y_La_choose.2.1 12 = .ok (.iconst 0, 1) := dc9_3 (by decide +kernel)
theorem d_La_choose_13 : decode y_La_choose.2.1 13 = .ok (.ireturn, 1) := dc9_172 (by decide +kernel)
theorem kh_8_180 : (Jvm.Cond.methodLink "ChanceArenaLaw" (33 : Nat) ({ cls := "ChanceArena", name := "choose", desc := "(II)V" } : Jvm.MethodName)) ∈ lw_R := zR (zk_8 _ (List.mem_of_getElem? (i := 215) rfl)) rfl
theorem kh_8_181 : (Jvm.Cond.instanceMethod ({ cls := "ChanceArena", name := "choose", desc := "(II)V" } : Jvm.MethodName)) ∈ lw_R := zR (zk_8 _ (List.mem_of_getElem? (i := 216) rfl)) rfl
theorem kh_8_182 : (Jvm.Cond.selects "ChanceArena" ({ cls := "ChanceArena", name := "choose", desc := "(II)V" } : Jvm.MethodName) ({ cls := "ChanceArena", name := "choose", desc := "(II)V" } : Jvm.MethodName)) ∈ lw_R := zR (zk_8 _ (List.mem_of_getElem? (i := 217) rfl)) rfl
theorem kh_8_183 : (Jvm.Cond.code ({ cls := "ChanceArena", name := "choose", desc := "(II)V" } : Jvm.MethodName) prog_1_method_21_code (3 : Nat) (Option.none : Option Jvm.ClassFile.FieldType)) ∈ lw_R := zR (zk_8 _ (List.mem_of_getElem? (i := 218) rfl)) rfl
theorem x_La_choose {G : mG} {M : mM} {d t o : Nat} {l l1 l2 : Int} (kt : mK M t = 1) (hM : mCt G y_CA_choose d [vr t, vi l1, vi l2] M "java/lang/IndexOutOfBoundsException") : mClW G y_La_choose hs_choose (d + 1) [vr t, vi l1, vi l2] M (some (vi 1)) (mNew M 50 0 6) := by
  refine mClW.first (y2 := y_CA_choose) (As := [vi l1, vi l2]) (st := []) (pc := 3) (c := 0) (n := 2) (k := 3) (v := 1) (L := [vr t, vi l1, vi l2, vd]) rfl rfl rfl kh_8_180 kh_8_181 kh_8_182 k1_1 kh_8_183 ⟨by decide, by decide, by decide +kernel⟩ (by decide) rfl (Nat.le_of_ble_eq_true rfl) d_La_choose_3 kt rfl (Nat.le_of_ble_eq_true rfl) rfl rfl hM ?_ ⟨0, 6, 9, 25⟩ [] rfl (by decide) (by decide) kh_8_30 kh_8_37 d_La_choose_9 rfl (by decide) d_La_choose_10 d_La_choose_11
  refine go_aload_n d_La_choose_0 rfl rfl ?_
  refine go_iload_n d_La_choose_1 rfl rfl ?_
  refine go_iload_n d_La_choose_2 rfl rfl ?_
  exact mGo.refl
def y_La_adopt : mY := (({ cls := "ChanceArenaLaw", name := "adopt", desc := "(LChanceArena;)I" } : Jvm.MethodName), method_9_code, 2, (Option.some Jvm.ClassFile.FieldType.int))
def hs_adopt : List (Nat × Nat × Nat × Nat) := [(0, 4, 7, 19)]
theorem d_La_adopt_0 : decode y_La_adopt.2.1 0 = .ok (.aload_n 0, 1) := dc9_42 (by decide +kernel)
theorem d_La_adopt_1 : decode y_La_adopt.2.1 1 = .ok (.invokevirtual 37, 3) := dc9_182 (by decide +kernel)
theorem d_La_adopt_4 : decode y_La_adopt.2.1 4 = .ok (.goto 6, 3) := dc9_167 (by decide +kernel)
theorem d_La_adopt_7 : decode y_La_adopt.2.1 7 = .ok (.astore_n 1, 1) := dc9_76 (by decide +kernel)
theorem d_La_adopt_8 : decode y_La_adopt.2.1 8 = .ok (.iconst 1, 1) := dc9_4 (by decide +kernel)
theorem d_La_adopt_9 : decode y_La_adopt.2.1 9 = .ok (.ireturn, 1) := dc9_172 (by decide +kernel)
theorem d_La_adopt_10 : decode y_La_adopt.2.1 10 = .ok (.iconst 0, 1) := dc9_3 (by decide +kernel)
theorem d_La_adopt_11 : decode y_La_adopt.2.1 11 = .ok (.ireturn, 1) := dc9_172 (by decide +kernel)
theorem kh_8_187 : (Jvm.Cond.methodLink "ChanceArenaLaw" (37 : Nat) ({ cls := "ChanceArena", name := "adopt", desc := "()V" } : Jvm.MethodName)) ∈ lw_R := zR (zk_8 _ (List.mem_of_getElem? (i := 222) rfl)) rfl
theorem kh_8_188 : (Jvm.Cond.instanceMethod ({ cls := "ChanceArena", name := "adopt", desc := "()V" } : Jvm.MethodName)) ∈ lw_R := zR (zk_8 _ (List.mem_of_getElem? (i := 223) rfl)) rfl
theorem kh_8_189 : (Jvm.Cond.selects "ChanceArena" ({ cls := "ChanceArena", name := "adopt", desc := "()V" } : Jvm.MethodName) ({ cls := "ChanceArena", name := "adopt", desc := "()V" } : Jvm.MethodName)) ∈ lw_R := zR (zk_8 _ (List.mem_of_getElem? (i := 224) rfl)) rfl
theorem kh_8_190 : (Jvm.Cond.code ({ cls := "ChanceArena", name := "adopt", desc := "()V" } : Jvm.MethodName) prog_1_method_22_code (2 : Nat) (Option.none : Option Jvm.ClassFile.FieldType)) ∈ lw_R := zR (zk_8 _ (List.mem_of_getElem? (i := 225) rfl)) rfl
theorem x_La_adopt {G : mG} {M : mM} {d t o : Nat} {l l1 l2 : Int} (kt : mK M t = 1) (hM : mCt G y_CA_adopt d [vr t] M "java/lang/IllegalStateException") : mClW G y_La_adopt hs_adopt (d + 1) [vr t] M (some (vi 1)) (mNew M 50 0 6) := by
  refine mClW.first (y2 := y_CA_adopt) (As := []) (st := []) (pc := 1) (c := 0) (n := 0) (k := 1) (v := 1) (L := [vr t, vd]) rfl rfl rfl kh_8_187 kh_8_188 kh_8_189 k1_1 kh_8_190 ⟨by decide, by decide, by decide +kernel⟩ (by decide) rfl (Nat.le_of_ble_eq_true rfl) d_La_adopt_1 kt rfl (Nat.le_of_ble_eq_true rfl) rfl rfl hM ?_ ⟨0, 4, 7, 19⟩ [] rfl (by decide) (by decide) kh_7_194 kh_7_201 d_La_adopt_7 rfl (by decide) d_La_adopt_8 d_La_adopt_9
  refine go_aload_n d_La_adopt_0 rfl rfl ?_
  exact mGo.refl
def y_La_judge : mY := (({ cls := "ChanceArenaLaw", name := "judge", desc := "(LChanceArena;I[J)I" } : Jvm.MethodName), method_10_code, 4, (Option.some Jvm.ClassFile.FieldType.int))
def hs_judge : List (Nat × Nat × Nat × Nat) := [(0, 9, 12, 13), (0, 9, 15, 19)]
theorem d_La_judge_0 : decode y_La_judge.2.1 0 = .ok (.aload_n 2, 1) := dc9_44 (by decide +kernel)
theorem d_La_judge_1 : decode y_La_judge.2.1 1 = .ok (.iconst 0, 1) := dc9_3 (by decide +kernel)
theorem d_La_judge_2 : decode y_La_judge.2.1 2 = .ok (.aload_n 0, 1) := dc9_42 (by decide +kernel)
theorem d_La_judge_3 : decode y_La_judge.2.1 3 = .ok (.iload_n 1, 1) := dc9_27 (by decide +kernel)
theorem d_La_judge_4 : decode y_La_judge.2.1 4 = .ok (.invokevirtual 40, 3) := dc9_182 (by decide +kernel)
theorem d_La_judge_7 : decode y_La_judge.2.1 7 = .ok (.i2l, 1) := dc9_133 (by decide +kernel)
theorem d_La_judge_8 : decode y_La_judge.2.1 8 = .ok (.lastore, 1) := dc9_80 (by decide +kernel)
theorem d_La_judge_9 : decode y_La_judge.2.1 9 = .ok (.goto 9, 3) := dc9_167 (by decide +kernel)
theorem d_La_judge_12 : decode y_La_judge.2.1 12 = .ok (.astore_n 3, 1) := dc9_78 (by decide +kernel)
theorem d_La_judge_13 : decode y_La_judge.2.1 13 = .ok (.iconst 1, 1) := dc9_4 (by decide +kernel)
theorem d_La_judge_14 : decode y_La_judge.2.1 14 = .ok (.ireturn, 1) := dc9_172 (by decide +kernel)
theorem d_La_judge_15 : decode y_La_judge.2.1 15 = .ok (.astore_n 3, 1) := dc9_78 (by decide +kernel)
theorem d_La_judge_16 : decode y_La_judge.2.1 16 = .ok (.iconst 2, 1) := dc9_5 (by decide +kernel)
theorem d_La_judge_17 : decode y_La_judge.2.1 17 = .ok (.ireturn, 1) := dc9_172 (by decide +kernel)
theorem d_La_judge_18 : decode y_La_judge.2.1 18 = .ok (.iconst 0, 1) := dc9_3 (by decide +kernel)
theorem d_La_judge_19 : decode y_La_judge.2.1 19 = .ok (.ireturn, 1) := dc9_172 (by decide +kernel)
theorem kh_8_195 : (Jvm.Cond.methodLink "ChanceArenaLaw" (40 : Nat) ({ cls := "ChanceArena", name := "judge", desc := "(I)I" } : Jvm.MethodName)) ∈ lw_R := zR (zk_8 _ (List.mem_of_getElem? (i := 230) rfl)) rfl
theorem kh_8_196 : (Jvm.Cond.instanceMethod ({ cls := "ChanceArena", name := "judge", desc := "(I)I" } : Jvm.MethodName)) ∈ lw_R := zR (zk_8 _ (List.mem_of_getElem? (i := 231) rfl)) rfl
theorem kh_8_197 : (Jvm.Cond.selects "ChanceArena" ({ cls := "ChanceArena", name := "judge", desc := "(I)I" } : Jvm.MethodName) ({ cls := "ChanceArena", name := "judge", desc := "(I)I" } : Jvm.MethodName)) ∈ lw_R := zR (zk_8 _ (List.mem_of_getElem? (i := 232) rfl)) rfl
theorem kh_8_198 : (Jvm.Cond.code ({ cls := "ChanceArena", name := "judge", desc := "(I)I" } : Jvm.MethodName) prog_1_method_23_code (2 : Nat) (Option.some Jvm.ClassFile.FieldType.int)) ∈ lw_R := zR (zk_8 _ (List.mem_of_getElem? (i := 233) rfl)) rfl
theorem x_La_judge1 {G : mG} {M : mM} {d t o : Nat} {l l1 l2 : Int} (kt : mK M t = 1) (hM : mCt G y_CA_judge d [vr t, vi l] M "java/lang/IllegalArgumentException") : mClW G y_La_judge hs_judge (d + 1) [vr t, vi l, vr o] M (some (vi 1)) (mNew M 50 0 6) := by
  refine mClW.first (y2 := y_CA_judge) (As := [vi l]) (st := [vi 0, vr o]) (pc := 4) (c := 0) (n := 1) (k := 3) (v := 1) (L := [vr t, vi l, vr o, vd]) rfl rfl rfl kh_8_195 kh_8_196 kh_8_197 k1_1 kh_8_198 ⟨by decide, by decide, by decide +kernel⟩ (by decide) rfl (Nat.le_of_ble_eq_true rfl) d_La_judge_4 kt rfl (Nat.le_of_ble_eq_true rfl) rfl rfl hM ?_ ⟨0, 9, 12, 13⟩ [⟨0, 9, 15, 19⟩] rfl (by decide) (by decide) kh_7_175 kh_6_8 d_La_judge_12 rfl (by decide) d_La_judge_13 d_La_judge_14
  refine go_aload_n d_La_judge_0 rfl rfl ?_
  refine go_iconst d_La_judge_1 ?_
  refine go_aload_n d_La_judge_2 rfl rfl ?_
  refine go_iload_n d_La_judge_3 rfl rfl ?_
  exact mGo.refl
theorem x_La_judge2 {G : mG} {M : mM} {d t o : Nat} {l l1 l2 : Int} (kt : mK M t = 1) (hNo : va_Nc "java/lang/IllegalStateException" "java/lang/IllegalArgumentException" (gS G)) (hM : mCt G y_CA_judge d [vr t, vi l] M "java/lang/IllegalStateException") : mClW G y_La_judge hs_judge (d + 1) [vr t, vi l, vr o] M (some (vi 2)) (mNew M 50 0 6) := by
  refine mClW.second (y2 := y_CA_judge) (As := [vi l]) (st := [vi 0, vr o]) (pc := 4) (c := 0) (n := 1) (k := 3) (v := 2) (L := [vr t, vi l, vr o, vd]) rfl rfl rfl kh_8_195 kh_8_196 kh_8_197 k1_1 kh_8_198 ⟨by decide, by decide, by decide +kernel⟩ (by decide) rfl (Nat.le_of_ble_eq_true rfl) d_La_judge_4 kt rfl (Nat.le_of_ble_eq_true rfl) rfl rfl hM ?_ (cls1 := "java/lang/IllegalArgumentException") ⟨0, 9, 12, 13⟩ ⟨0, 9, 15, 19⟩ [] rfl (by decide) (by decide) (by decide) (by decide) kh_7_175 hNo kh_7_194 kh_7_201 d_La_judge_15 rfl (by decide) d_La_judge_16 d_La_judge_17
  refine go_aload_n d_La_judge_0 rfl rfl ?_
  refine go_iconst d_La_judge_1 ?_
  refine go_aload_n d_La_judge_2 rfl rfl ?_
  refine go_iload_n d_La_judge_3 rfl rfl ?_
  exact mGo.refl
end
section
/-! The law's script: an old array of ints, which may lie at address 0. -/
section SCR
variable {G : mG} {y : mY} {d pc : Nat} {L st : List mV} {M : mM} {Q : Option mV → mM → Prop}
theorem wm_ialdV {a : Nat} {i : Int} (hd : decode y.2.1 pc = .ok (.iaload, 1)) (hK : mK M a = 40) (hi : 0 ≤ i ∧ i < mN M a) (h : mWm G y d (pc + 1) L (vi (mI M a i.toNat) :: st) M Q) : mWm G y d pc L (vi i :: vo a :: st) M Q :=
  wm_st (fun p e R s m args below meth co H locs cells slots ls Qf hA hR hL kk => by
    obtain ⟨g1, g2, cell, g3, g4, g5, g6, g7⟩ := (hR.2.2.2.2.2.2 a).2.2 hK
    obtain ⟨hx, hb, -, -, -, -, hown, hKK, hts, -, hvm, -⟩ := hA
    have hi3 : i32 i := ⟨by omega, by omega⟩
    exact W.iald (v := mcv (vi (mI M a i.toNat))) hx hb g3 (State.isArrayOf_alike hvm.1 g4) g5 (by rw [g6]; exact i32_in hi g2) (by rw [i32_clamp hi3]; exact g7 _ (by omega)) rfl rfl hd kk) h
theorem wm_alenV {a : Nat} (hd : decode y.2.1 pc = .ok (.arraylength, 1)) (hK : mK M a = 40) (h : mWm G y d (pc + 1) L (vi (mN M a : Int) :: st) M Q) : mWm G y d pc L (vo a :: st) M Q :=
  wm_st (fun p e R s m args below meth co H locs cells slots ls Qf hA hR hL kk => by
    obtain ⟨g1, g2, cell, g3, g4, g5, g6, g7⟩ := (hR.2.2.2.2.2.2 a).2.2 hK
    obtain ⟨hx, hb, -, -, -, -, hown, hKK, hts, -, hvm, -⟩ := hA
    exact W.alen (n := Int32.ofInt (mN M a : Int)) hx hb g3 (State.isArrayOf_alike hvm.1 g4) (by rw [g6]; rfl) rfl rfl hd kk) h
end SCR
end
section
/-! Math.floorMod. -/
theorem d_JM_floorMod_0 : decode y_JM_floorMod.2.1 0 = .ok (.lload_n 0, 1) := dc9_30 (by decide +kernel)
theorem d_JM_floorMod_1 : decode y_JM_floorMod.2.1 1 = .ok (.lload_n 2, 1) := dc9_32 (by decide +kernel)
theorem d_JM_floorMod_2 : decode y_JM_floorMod.2.1 2 = .ok (.lrem, 1) := dc9_113 (by decide +kernel)
theorem d_JM_floorMod_3 : decode y_JM_floorMod.2.1 3 = .ok (.lstore 4, 2) := dc9_55 (by decide +kernel)
theorem d_JM_floorMod_5 : decode y_JM_floorMod.2.1 5 = .ok (.lload_n 0, 1) := dc9_30 (by decide +kernel)
theorem d_JM_floorMod_6 : decode y_JM_floorMod.2.1 6 = .ok (.lload_n 2, 1) := dc9_32 (by decide +kernel)
theorem d_JM_floorMod_7 : decode y_JM_floorMod.2.1 7 = .ok (.lxor, 1) := by decide +kernel
theorem d_JM_floorMod_8 : decode y_JM_floorMod.2.1 8 = .ok (.lconst 0, 1) := dc9_9 (by decide +kernel)
theorem d_JM_floorMod_9 : decode y_JM_floorMod.2.1 9 = .ok (.lcmp, 1) := dc9_148 (by decide +kernel)
theorem d_JM_floorMod_10 : decode y_JM_floorMod.2.1 10 = .ok (.ifCond .ge 15, 3) := dc9_156 (by decide +kernel)
theorem d_JM_floorMod_13 : decode y_JM_floorMod.2.1 13 = .ok (.lload 4, 2) := dc9_22 (by decide +kernel)
theorem d_JM_floorMod_15 : decode y_JM_floorMod.2.1 15 = .ok (.lconst 0, 1) := dc9_9 (by decide +kernel)
theorem d_JM_floorMod_16 : decode y_JM_floorMod.2.1 16 = .ok (.lcmp, 1) := dc9_148 (by decide +kernel)
theorem d_JM_floorMod_17 : decode y_JM_floorMod.2.1 17 = .ok (.ifCond .eq 8, 3) := dc9_153 (by decide +kernel)
theorem d_JM_floorMod_20 : decode y_JM_floorMod.2.1 20 = .ok (.lload 4, 2) := dc9_22 (by decide +kernel)
theorem d_JM_floorMod_22 : decode y_JM_floorMod.2.1 22 = .ok (.lload_n 2, 1) := dc9_32 (by decide +kernel)
theorem d_JM_floorMod_23 : decode y_JM_floorMod.2.1 23 = .ok (.ladd, 1) := dc9_97 (by decide +kernel)
theorem d_JM_floorMod_24 : decode y_JM_floorMod.2.1 24 = .ok (.lreturn, 1) := dc9_173 (by decide +kernel)
theorem d_JM_floorMod_25 : decode y_JM_floorMod.2.1 25 = .ok (.lload 4, 2) := dc9_22 (by decide +kernel)
theorem d_JM_floorMod_27 : decode y_JM_floorMod.2.1 27 = .ok (.lreturn, 1) := dc9_173 (by decide +kernel)
theorem Met.ofWF {l : Launch} {y : MethodName} {ws ws' : List Cond} {rm : Room} {Pc : Array Value → State → Prop} {Qc : Array Value → State → Outcome → State → Prop} {mc ms : Nat} {free : Addr → Prop} {cc : ByteArray} {maxL : Nat} {ret : Option FieldType}
    (hy : plainFor y = true) (hw : ws = Cond.code y cc maxL ret :: ws')
    (body : ∀ p e s m args below meth c s₁, BodyLoose p l y (headSpec ws rm) cc maxL ret e s m args below meth c s₁ → c.maxLocals = maxL → Pc args s →
      W p l e (headSpec ws rm).room s m args below meth c s.heap [] 0 0 (MQ below Qc args s mc ms free) (entryFrame m args maxL)) : Met l y ws rm Pc Qc mc ms free := by
  refine MetFree.of_bodySF (code := cc) (maxLocals := maxL) (ret := ret) hy ?_ ?_
  · intro args s m h hn
    obtain ⟨meth, c, h1, h2, h3, h4, h5, h6, -, -⟩ := Cond.code_spec hn (atoms_spec (ws := ws) h _ (by rw [hw]; exact List.mem_cons_self))
    exact ⟨meth, c, h1, h2, h3, h4, h5, h6⟩
  · intro p e s m args below meth c s₁ B hml hP _
    have hh0 : s₁.heap = s.heap := by rw [B.state]; rfl
    obtain ⟨t, a1, o, b1, b2, b3⟩ := body p e s m args below meth c s₁ B hml hP s₁ hh0 (Stand.of_body B)
    exact ⟨t, o, a1, b1, b2, ⟨b3.1, b3.2⟩⟩
theorem wm_openF {G : mG} {y : mY} {d : Nat} {L : List mV} {M : mM} {Q : Option mV → mM → Prop} {args : List mV} (hp : plainFor y.1 = true) (hlen : (mEnt args).length ≤ y.2.2.1) (hL : mEnt args ++ List.replicate (y.2.2.1 - (mEnt args).length) vd = L) (h : mWm G y d 0 L [] M Q) : mCm G y d args M Q := by
  obtain ⟨r, M', ⟨h1, h2⟩, h3⟩ := h
  refine ⟨r, M', ⟨h1, ?_⟩, h3⟩
  refine Met.ofWF (cc := y.2.1) (maxL := y.2.2.1) (ret := y.2.2.2) hp rfl ?_
  intro p e s m args9 below meth c s₁ B hml hv
  obtain ⟨rfl, hRep, hK, hh, hal⟩ := hv
  have hl := lv_entry (args.map mcv) (n := y.2.2.1) (by rw [mEnt_len]; exact hlen)
  rw [lg_entry_eq]
  generalize (lg_sl (args.map mcv) ++ List.replicate (y.2.2.1 - (lg_sl (args.map mcv)).length) Slot.unset).toArray = ls at hl ⊢
  have hLs : mLs ls y.2.2.1 L := by
    refine ⟨hl.1, hl.2.1, fun i v hi hv => ?_⟩
    rw [← hL] at hi
    by_cases q : i < (mEnt args).length
    · rw [List.getElem?_append_left q] at hi
      have := mEnt_args args 0 i v hi hv
      rw [Nat.zero_add] at this
      exact hl.2.2 _ this
    · rw [List.getElem?_append_right (by omega)] at hi
      have := List.mem_of_getElem? hi
      rw [List.eq_of_mem_replicate this] at hv
      cases hv
  have := h2 p e (headSpec (zW (yC y)) { frames := d, cells := mZ M' - mZ M, slots := mS M' - mS M, locals := 64 * d }).room s m (args.map mcv).toArray below meth c s.heap [] 0 0 ls ⟨B.exec, B.bytes, hml, B.returns, B.notSynchronized, (name_of_methodNamed B.named B.method).1, findClass_of_methodNamed B.named, hK, hh.use _, hh, hal, Nat.le_refl _, Nat.le_refl _⟩ hRep (fun q h => by cases h) (by rw [Nat.zero_add]; exact Nat.le_refl _) (by rw [Nat.zero_add]; exact Nat.le_refl _) hLs
  rw [Nat.zero_add, Nat.zero_add] at this
  exact this
theorem cmpz0 (z b : Int) : (0 ≤ cmpL z b ↔ b ≤ z) ∧ (cmpL z b ≤ 0 ↔ z ≤ b) ∧ (cmpL z b < 0 ↔ z < b) ∧ (cmpL z b = 0 ↔ z = b) ∧ (0 < cmpL z b ↔ b < z) := by unfold cmpL; split <;> (try split) <;> omega
theorem xorL_neg {x y : Int} (hx : i64 x) (hy : i64 y) (h : 0 < y) : xorL x y < 0 ↔ x < 0 := by
  have a : (Int64.ofInt x ^^^ Int64.ofInt y).toBitVec.msb = ((Int64.ofInt x).toBitVec.msb ^^ (Int64.ofInt y).toBitVec.msb) := by
    rw [Int64.toBitVec_xor, BitVec.msb_xor]
  have ex : (Int64.ofInt x).toBitVec.toInt = x := i64_toInt hx
  have ey : (Int64.ofInt y).toBitVec.toInt = y := i64_toInt hy
  have e : (Int64.ofInt x ^^^ Int64.ofInt y).toBitVec.toInt = xorL x y := rfl
  rw [BitVec.msb_eq_toInt, BitVec.msb_eq_toInt, BitVec.msb_eq_toInt, ex, ey, e, decide_eq_false (by omega : ¬ y < 0), Bool.xor_false] at a
  exact decide_eq_decide.1 a
theorem xorL_i64 {x y : Int} : i64 (xorL x y) := ⟨Int64.le_toInt _, Int64.toInt_lt _⟩
theorem s_JM_floorMod0 {G : mG} (d : Nat) (M : mM) (x y : Int) (hx : i64 x) (h : 0 < y) (hy : i64 y) : Cj G y_JM_floorMod d [vl x, vl y] M (fun v M' => M' = M ∧ (0 ≤ v ∧ v < y) ∧ v = x % y) := by
  have ty : ∀ z : Int, i64 z → i64 (cmpL z 0) ∧ i32 (cmpL z 0) := fun z _ => by unfold cmpL; split <;> (try split) <;> exact ⟨⟨by decide, by decide⟩, ⟨by decide, by decide⟩⟩
  have b1 := Int.tmod_lt_of_pos x h
  have b2 : -y < x.tmod y := by
    have := Int.tmod_lt_of_pos (-x) h
    rw [Int.neg_tmod] at this
    omega
  have im : i64 (x.tmod y) := ⟨by have := hy.2; omega, by have := hy.2; omega⟩
  have s0 := xorL_neg hx hy h
  refine wm_openF (y := y_JM_floorMod) (by first | exact Jvm.Free.JP.mathPlain rfl (by decide +kernel) | decide +kernel) (Nat.le_of_ble_eq_true rfl) (L := [vl x, vd, vl y, vd, vd, vd]) rfl ?_
  refine wm_lload_n d_JM_floorMod_0 rfl rfl ?_
  refine wm_lload_n d_JM_floorMod_1 rfl rfl ?_
  refine wm_lrem d_JM_floorMod_2 hx hy (by omega) ?_
  refine wm_lstore d_JM_floorMod_3 (by decide) (L' := [vl x, vd, vl y, vd, vl (x.tmod y), vd]) rfl ?_
  refine wm_lload_n d_JM_floorMod_5 rfl rfl ?_
  refine wm_lload_n d_JM_floorMod_6 rfl rfl ?_
  refine wm_lxor d_JM_floorMod_7 ?_
  refine wm_lconst (x := 0) d_JM_floorMod_8 rfl ?_
  refine wm_lcmp d_JM_floorMod_9 xorL_i64 ⟨by decide, by decide⟩ ?_
  refine wm_if_ge (tgt := 25) d_JM_floorMod_10 rfl (ty _ xorL_i64).2 ?_ ?_
  · intro q
    have q' := (cmpz0 (xorL x y) 0).1.1 q
    have x0 : 0 ≤ x := by omega
    refine wm_lload d_JM_floorMod_25 rfl ?_
    refine wm_lreturn d_JM_floorMod_27 rfl ?_
    exact ⟨_, rfl, rfl, ⟨Int.tmod_nonneg y x0, b1⟩, Int.tmod_eq_emod_of_nonneg x0⟩
  · intro q
    have q' : ¬ 0 ≤ xorL x y := fun u => q ((cmpz0 (xorL x y) 0).1.2 u)
    have x0 : x < 0 := s0.1 (by omega)
    have m0 : x.tmod y ≤ 0 := by
      have := Int.tmod_nonneg y (a := -x) (by omega)
      rw [Int.neg_tmod] at this
      omega
    refine wm_lload d_JM_floorMod_13 rfl ?_
    refine wm_lconst (x := 0) d_JM_floorMod_15 rfl ?_
    refine wm_lcmp d_JM_floorMod_16 im ⟨by decide, by decide⟩ ?_
    refine wm_if_eq (tgt := 25) d_JM_floorMod_17 rfl (ty _ im).2 ?_ ?_
    · intro c
      have c' := (cmpz0 (x.tmod y) 0).2.2.2.1.1 c
      refine wm_lload d_JM_floorMod_25 rfl ?_
      refine wm_lreturn d_JM_floorMod_27 rfl ?_
      exact ⟨_, rfl, rfl, ⟨by omega, by omega⟩, by rw [c', Int.emod_eq_zero_of_dvd (Int.dvd_of_tmod_eq_zero c')]⟩
    · intro c
      have c' : x.tmod y ≠ 0 := fun u => c ((cmpz0 (x.tmod y) 0).2.2.2.1.2 u)
      refine wm_lload d_JM_floorMod_20 rfl ?_
      refine wm_lload_n d_JM_floorMod_22 rfl rfl ?_
      refine wm_ladd d_JM_floorMod_23 ?_
      refine wm_lreturn d_JM_floorMod_24 rfl ?_
      have e1 : x = (x.tmod y + y) + y * (x.tdiv y - 1) := by
        have e0 := Int.mul_tdiv_add_tmod x y
        rw [Int.mul_sub]
        omega
      have e2 : ((x.tmod y + y) + y * (x.tdiv y - 1)) % y = x.tmod y + y := by
        rw [Int.add_mul_emod_self_left]
        exact Int.emod_eq_of_lt (by omega) (by omega)
      rw [← e1] at e2
      exact ⟨_, rfl, rfl, ⟨by omega, by omega⟩, e2.symm⟩
end
section
/-! What the law's start says of the primes and of Throwable's fields. -/
section STA
variable {G : mG} {args : Array Value}
theorem gPr.of (hB : gB G = (gS G).heap.size) (h1 : (Cond.laysStatic "ChanceArena$Residues" "PRIMES" "[I").before args (gS G) = true) (h2 : (Cond.initialized "ChanceArena$Residues").before args (gS G) = true) (har : (Cond.arrayOf (.static "ChanceArena$Residues" "PRIMES" "[I") .int).before args (gS G) = true) (hle : (Cond.eq (.length (.static "ChanceArena$Residues" "PRIMES" "[I")) (.int 36)).before args (gS G) = true) (hel : ∀ j : Nat, j < 36 → (Cond.eq (.elem (.static "ChanceArena$Residues" "PRIMES" "[I") (.int (Int32.ofNat j))) (.int (Int32.ofInt (prL.getD j 0)))).before args (gS G) = true) : gPr G := by
  have hA : ∀ a : Nat, a < (gS G).heap.size → ¬ mOwn G a := fun a ha h => by
    have h : gB G ≤ a := h
    omega
  obtain ⟨t, ht, hT⟩ := va_Tof (N := 36) (f := fun j => .int (Int32.ofInt (prL.getD j 0))) (A := mOwn G) (by decide) har (va_eqt hle) (fun j hj => va_eqt (hel j hj)) hA
  exact ⟨t, va_Zref h1 h2 ht hA, hT⟩
theorem TH.of (hB : gB G = (gS G).heap.size) (htr : (gL G).stackTraces = false) (h : ∀ w ∈ zSpec, w.before args (gS G) = true) : TH G := by
  refine ⟨htr, ?_⟩
  rw [hB]
  exact ⟨zS.of (h _ (List.mem_of_getElem? (i := 2) rfl)) (h _ (List.mem_of_getElem? (i := 0) rfl)), zS.of (h _ (List.mem_of_getElem? (i := 3) rfl)) (h _ (List.mem_of_getElem? (i := 1) rfl))⟩
end STA
end
section
/-! All string constants of class and reference. -/
/-- the same with their letters -/
def litBW : List (Nat × String × List Int) := [(72, "var", [118, 97, 114]), (78, "max", [109, 97, 120]), (80, "min", [109, 105, 110]), (82, "true", [116, 114, 117, 101]), (84, "stay", [115, 116, 97, 121]), (86, "bool", [98, 111, 111, 108]), (88, "init", [105, 110, 105, 116]), (90, "most", [109, 111, 115, 116]), (92, "const", [99, 111, 110, 115, 116]), (94, "false", [102, 97, 108, 115, 101]), (96, "least", [108, 101, 97, 115, 116]), (98, "target", [116, 97, 114, 103, 101, 116]), (100, "formula", [102, 111, 114, 109, 117, 108, 97])]
def litBM : List (Nat × String × List Int) := [(176, "const", [99, 111, 110, 115, 116]), (182, "var", [118, 97, 114]), (184, "bool", [98, 111, 111, 108]), (186, "formula", [102, 111, 114, 109, 117, 108, 97]), (188, "false", [102, 97, 108, 115, 101]), (190, "max", [109, 97, 120]), (192, "min", [109, 105, 110]), (194, "most", [109, 111, 115, 116]), (196, "init", [105, 110, 105, 116]), (198, "stay", [115, 116, 97, 121]), (200, "target", [116, 97, 114, 103, 101, 116]), (202, "true", [116, 114, 117, 101]), (204, "least", [108, 101, 97, 115, 116])]
/-- the string constants of class and reference are what they say -/
def LT (G : mG) : Prop := JD G ∧ (∀ q, q ∈ litBW → Lit G "ChanceArena$Words" q.1 q.2.1 q.2.2) ∧ ∀ q, q ∈ litBM → Lit G "ChanceArenaModel" q.1 q.2.1 q.2.2
/-- what is said of a constant's contents -/
def litC (own : String) (k : Nat) (f : List Int) : List Cond := [.exactly (.string own k) "java/lang/String", .eq (.field (.string own k) "java/lang/String" "coder" "B") (.int 0), .arrayOf (.field (.string own k) "java/lang/String" "value" "[B") .byte, .eq (.length (.field (.string own k) "java/lang/String" "value" "[B")) (.int (Int32.ofNat f.length))] ++ (List.range f.length).map (fun j => .eq (.elem (.field (.string own k) "java/lang/String" "value" "[B") (.int (Int32.ofNat j))) (.int (Int32.ofInt (f.getD j 0))))
section LTS
variable {G : mG} {args : Array Value}
theorem Lit.ofC {own tx : String} {k : Nat} {f : List Int} (hB : gB G = (gS G).heap.size) (hn : f.length < 100) (hf : f.all (fun x => decide (0 ≤ x ∧ x < 128)) = true) (hr : (Cond.stringRef own k tx).before args (gS G) = true) (h : ∀ w ∈ litC own k f, w.before args (gS G) = true) : Lit G own k tx f := by
  refine Lit.of (f := f) hB hn (fun j hj => ?_) hr (h _ (List.mem_append_left _ (List.mem_of_getElem? (i := 0) rfl))) (h _ (List.mem_append_left _ (List.mem_of_getElem? (i := 1) rfl))) (h _ (List.mem_append_left _ (List.mem_of_getElem? (i := 2) rfl))) (h _ (List.mem_append_left _ (List.mem_of_getElem? (i := 3) rfl))) (fun j hj => h _ (List.mem_append_right _ (List.mem_map.mpr ⟨j, List.mem_range.mpr hj, rfl⟩)))
  have e : f.getD j 0 = f[j] := by rw [List.getD_eq_getElem?_getD, List.getElem?_eq_getElem hj]; rfl
  rw [e]
  exact of_decide_eq_true (List.all_eq_true.mp hf _ (List.getElem_mem hj))
theorem LT.of (hB : gB G = (gS G).heap.size) (hJ : JD G) (hw : ∀ q ∈ litBW, (Cond.stringRef "ChanceArena$Words" q.1 q.2.1).before args (gS G) = true ∧ ∀ w ∈ litC "ChanceArena$Words" q.1 q.2.2, w.before args (gS G) = true) (hm : ∀ q ∈ litBM, (Cond.stringRef "ChanceArenaModel" q.1 q.2.1).before args (gS G) = true ∧ ∀ w ∈ litC "ChanceArenaModel" q.1 q.2.2, w.before args (gS G) = true) : LT G := by
  have a1 : ∀ q ∈ litBW, q.2.2.length < 100 ∧ q.2.2.all (fun x => decide (0 ≤ x ∧ x < 128)) = true := by decide +kernel
  have a2 : ∀ q ∈ litBM, q.2.2.length < 100 ∧ q.2.2.all (fun x => decide (0 ≤ x ∧ x < 128)) = true := by decide +kernel
  exact ⟨hJ, fun b hb => Lit.ofC hB (a1 b hb).1 (a1 b hb).2 (hw b hb).1 (hw b hb).2, fun b hb => Lit.ofC hB (a2 b hb).1 (a2 b hb).2 (hm b hb).1 (hm b hb).2⟩
end LTS
/-! The language's own words: pure. -/
/-- the letters from p to e - 1 -/
def wlq (T : Nat → Int) (p e : Nat) : List Int := (List.range (e - p)).map (fun j => T (p + j))
/-- what kind of word a name is (1: a name and nothing else) -/
def kwq (l : List Int) : Int := if l = [118, 97, 114] then 4 else if l = [109, 97, 120] then 7 else if l = [109, 105, 110] then 8 else if l = [116, 114, 117, 101] then 12 else if l = [115, 116, 97, 121] then 10 else if l = [98, 111, 111, 108] then 5 else if l = [105, 110, 105, 116] then 9 else if l = [109, 111, 115, 116] then 15 else if l = [99, 111, 110, 115, 116] then 3 else if l = [102, 97, 108, 115, 101] then 13 else if l = [108, 101, 97, 115, 116] then 14 else if l = [116, 97, 114, 103, 101, 116] then 11 else if l = [102, 111, 114, 109, 117, 108, 97] then 6 else 1
theorem kw_none {l : List Int} (h0 : l ≠ [118, 97, 114]) (h1 : l ≠ [109, 97, 120]) (h2 : l ≠ [109, 105, 110]) (h3 : l ≠ [116, 114, 117, 101]) (h4 : l ≠ [115, 116, 97, 121]) (h5 : l ≠ [98, 111, 111, 108]) (h6 : l ≠ [105, 110, 105, 116]) (h7 : l ≠ [109, 111, 115, 116]) (h8 : l ≠ [99, 111, 110, 115, 116]) (h9 : l ≠ [102, 97, 108, 115, 101]) (h10 : l ≠ [108, 101, 97, 115, 116]) (h11 : l ≠ [116, 97, 114, 103, 101, 116]) (h12 : l ≠ [102, 111, 114, 109, 117, 108, 97]) : kwq l = 1 := by
  unfold kwq
  rw [if_neg h0, if_neg h1, if_neg h2, if_neg h3, if_neg h4, if_neg h5, if_neg h6, if_neg h7, if_neg h8, if_neg h9, if_neg h10, if_neg h11, if_neg h12]
theorem wlq_len (T : Nat → Int) (p e : Nat) : (wlq T p e).length = e - p := by simp [wlq]
theorem wlq_hd {T : Nat → Int} {p e : Nat} (h : p < e) : (wlq T p e).head? = some (T p) := by
  obtain ⟨k, hk⟩ : ∃ k, e - p = k + 1 := ⟨e - p - 1, by omega⟩
  unfold wlq
  rw [hk, List.range_succ_eq_map]
  simp
theorem wl_len {l k : List Int} {n : Nat} (h : l.length = n) (c : k.length ≠ n) : l ≠ k := fun e => c (by rw [← e]; exact h)
theorem wl_hd {l k : List Int} {x : Int} (h : l.head? = some x) (c : k.head? ≠ some x) : l ≠ k := fun e => c (by rw [← e]; exact h)
theorem wlq_eq {T : Nat → Int} {p e : Nat} {l : List Int} : wlq T p e = l ↔ (e - p = l.length ∧ ∀ j, j < l.length → T (p + j) = l.getD j 0) := by
  constructor
  · intro h
    have hl : e - p = l.length := by rw [← h]; exact (wlq_len T p e).symm
    refine ⟨hl, fun j hj => ?_⟩
    rw [← h, List.getD_eq_getElem?_getD]
    unfold wlq
    rw [List.getElem?_map, List.getElem?_range (by omega)]
    rfl
  · intro ⟨h1, h2⟩
    apply List.ext_getElem
    · rw [wlq_len]; exact h1
    · intro j hj hj2
      have := h2 j hj2
      rw [List.getD_eq_getElem?_getD, List.getElem?_eq_getElem hj2] at this
      simp only [wlq, List.getElem_map, List.getElem_range]
      exact this
end
section
/-! The law's helpers where nothing is thrown. -/
theorem n_La_end {G : mG} {M : mM} {d t o : Nat} {l l1 l2 : Int} {Q0 : Int → mM → Prop} (kt : mK M t = 1) (h : Ci G y_CA_end d [vr t, vi l] M Q0) (hq : ∀ r M1, Q0 r M1 → i32 r ∧ mK M1 o = 33 ∧ 0 < mN M1 o) : CiW G y_La_end hs_end (d + 1) [vr t, vi l, vr o] M (fun x M2 => x = 0 ∧ ∃ r M1, Q0 r M1 ∧ M2 = mUL M1 o 0 r) := by
  refine wm_openW rfl (Nat.le_of_ble_eq_true rfl) (L := [vr t, vi l, vr o, vd]) rfl ?_
  refine wm_aload_n d_La_end_0 rfl rfl ?_
  refine wm_iconst d_La_end_1 ?_
  refine wm_aload_n d_La_end_2 rfl rfl ?_
  refine wm_iload_n d_La_end_3 rfl rfl ?_
  refine wm_callV (y2 := y_CA_end) (c := 0) (n := 1) (As := [vi l]) rfl rfl rfl kh_7_176 kh_7_177 kh_7_178 k1_1 kh_7_179 ⟨by decide, by decide, by decide +kernel⟩ (by decide) rfl rfl (Nat.le_of_ble_eq_true rfl) d_La_end_4 kt ?_
  refine mCm.mono h (fun r9 M1 q => ?_)
  obtain ⟨r, rfl, q⟩ := q
  obtain ⟨ir, ko, no⟩ := hq r M1 q
  refine wm_i2l d_La_end_7 ir ?_
  refine wm_last d_La_end_8 ko ⟨by decide, by omega⟩ ⟨by have := ir.1; omega, by have := ir.2; omega⟩ ?_
  refine wm_goto (tgt := 15) d_La_end_9 rfl ?_
  refine wm_iconst d_La_end_15 ?_
  refine wm_ireturn d_La_end_16 rfl rfl ?_
  exact ⟨_, rfl, rfl, r, M1, q, rfl⟩
theorem n_La_explore {G : mG} {M : mM} {d t o : Nat} {l l1 l2 : Int} {Q0 : Int → mM → Prop} (kt : mK M t = 1) (h : Ci G y_CA_explore d [vr t] M Q0) (hq : ∀ r M1, Q0 r M1 → i32 r ∧ mK M1 o = 33 ∧ 0 < mN M1 o) : CiW G y_La_explore hs_explore (d + 1) [vr t, vr o] M (fun x M2 => x = 0 ∧ ∃ r M1, Q0 r M1 ∧ M2 = mUL M1 o 0 r) := by
  refine wm_openW rfl (Nat.le_of_ble_eq_true rfl) (L := [vr t, vr o, vd]) rfl ?_
  refine wm_aload_n d_La_explore_0 rfl rfl ?_
  refine wm_iconst d_La_explore_1 ?_
  refine wm_aload_n d_La_explore_2 rfl rfl ?_
  refine wm_callV (y2 := y_CA_explore) (c := 0) (n := 0) (As := []) rfl rfl rfl kh_7_195 kh_7_196 kh_7_197 k1_1 kh_7_198 ⟨by decide, by decide, by decide +kernel⟩ (by decide) rfl rfl (Nat.le_of_ble_eq_true rfl) d_La_explore_3 kt ?_
  refine mCm.mono h (fun r9 M1 q => ?_)
  obtain ⟨r, rfl, q⟩ := q
  obtain ⟨ir, ko, no⟩ := hq r M1 q
  refine wm_i2l d_La_explore_6 ir ?_
  refine wm_last d_La_explore_7 ko ⟨by decide, by omega⟩ ⟨by have := ir.1; omega, by have := ir.2; omega⟩ ?_
  refine wm_goto (tgt := 14) d_La_explore_8 rfl ?_
  refine wm_iconst d_La_explore_14 ?_
  refine wm_ireturn d_La_explore_15 rfl rfl ?_
  exact ⟨_, rfl, rfl, r, M1, q, rfl⟩
theorem n_La_variable {G : mG} {M : mM} {d t o : Nat} {l l1 l2 : Int} {Q0 : Int → mM → Prop} (kt : mK M t = 1) (h : Ci G y_CA_variable d [vr t, vi l1, vi l2] M Q0) (hq : ∀ r M1, Q0 r M1 → i32 r ∧ mK M1 o = 33 ∧ 0 < mN M1 o) : CiW G y_La_variable hs_variable (d + 1) [vr t, vi l1, vi l2, vr o] M (fun x M2 => x = 0 ∧ ∃ r M1, Q0 r M1 ∧ M2 = mUL M1 o 0 r) := by
  refine wm_openW rfl (Nat.le_of_ble_eq_true rfl) (L := [vr t, vi l1, vi l2, vr o, vd]) rfl ?_
  refine wm_aload_n d_La_variable_0 rfl rfl ?_
  refine wm_iconst d_La_variable_1 ?_
  refine wm_aload_n d_La_variable_2 rfl rfl ?_
  refine wm_iload_n d_La_variable_3 rfl rfl ?_
  refine wm_iload_n d_La_variable_4 rfl rfl ?_
  refine wm_callV (y2 := y_CA_variable) (c := 0) (n := 2) (As := [vi l1, vi l2]) rfl rfl rfl kh_8_31 kh_8_32 kh_8_33 k1_1 kh_8_34 ⟨by decide, by decide, by decide +kernel⟩ (by decide) rfl rfl (Nat.le_of_ble_eq_true rfl) d_La_variable_5 kt ?_
  refine mCm.mono h (fun r9 M1 q => ?_)
  obtain ⟨r, rfl, q⟩ := q
  obtain ⟨ir, ko, no⟩ := hq r M1 q
  refine wm_i2l d_La_variable_8 ir ?_
  refine wm_last d_La_variable_9 ko ⟨by decide, by omega⟩ ⟨by have := ir.1; omega, by have := ir.2; omega⟩ ?_
  refine wm_goto (tgt := 17) d_La_variable_10 rfl ?_
  refine wm_iconst d_La_variable_17 ?_
  refine wm_ireturn d_La_variable_18 rfl rfl ?_
  exact ⟨_, rfl, rfl, r, M1, q, rfl⟩
theorem n_La_solve {G : mG} {M : mM} {d t o : Nat} {l l1 l2 : Int} {Q0 : Int → mM → Prop} (kt : mK M t = 1) (h : Ci G y_CA_solve d [vr t] M Q0) (hq : ∀ r M1, Q0 r M1 → i32 r ∧ mK M1 o = 33 ∧ 0 < mN M1 o) : CiW G y_La_solve hs_solve (d + 1) [vr t, vr o] M (fun x M2 => x = 0 ∧ ∃ r M1, Q0 r M1 ∧ M2 = mUL M1 o 0 r) := by
  refine wm_openW rfl (Nat.le_of_ble_eq_true rfl) (L := [vr t, vr o, vd]) rfl ?_
  refine wm_aload_n d_La_solve_0 rfl rfl ?_
  refine wm_iconst d_La_solve_1 ?_
  refine wm_aload_n d_La_solve_2 rfl rfl ?_
  refine wm_callV (y2 := y_CA_solve) (c := 0) (n := 0) (As := []) rfl rfl rfl kh_8_53 kh_8_54 kh_8_55 k1_1 kh_8_56 ⟨by decide, by decide, by decide +kernel⟩ (by decide) rfl rfl (Nat.le_of_ble_eq_true rfl) d_La_solve_3 kt ?_
  refine mCm.mono h (fun r9 M1 q => ?_)
  obtain ⟨r, rfl, q⟩ := q
  obtain ⟨ir, ko, no⟩ := hq r M1 q
  refine wm_i2l d_La_solve_6 ir ?_
  refine wm_last d_La_solve_7 ko ⟨by decide, by omega⟩ ⟨by have := ir.1; omega, by have := ir.2; omega⟩ ?_
  refine wm_goto (tgt := 14) d_La_solve_8 rfl ?_
  refine wm_iconst d_La_solve_14 ?_
  refine wm_ireturn d_La_solve_15 rfl rfl ?_
  exact ⟨_, rfl, rfl, r, M1, q, rfl⟩
theorem n_La_within {G : mG} {M : mM} {d t o : Nat} {l l1 l2 : Int} {Q0 : Int → mM → Prop} (kt : mK M t = 1) (h : Ci G y_CA_within d [vr t, vi l] M Q0) (hq : ∀ r M1, Q0 r M1 → i32 r ∧ mK M1 o = 33 ∧ 0 < mN M1 o) : CiW G y_La_within hs_within (d + 1) [vr t, vi l, vr o] M (fun x M2 => x = 0 ∧ ∃ r M1, Q0 r M1 ∧ M2 = mUL M1 o 0 r) := by
  refine wm_openW rfl (Nat.le_of_ble_eq_true rfl) (L := [vr t, vi l, vr o, vd]) rfl ?_
  refine wm_aload_n d_La_within_0 rfl rfl ?_
  refine wm_iconst d_La_within_1 ?_
  refine wm_aload_n d_La_within_2 rfl rfl ?_
  refine wm_iload_n d_La_within_3 rfl rfl ?_
  refine wm_callV (y2 := y_CA_within) (c := 0) (n := 1) (As := [vi l]) rfl rfl rfl kh_8_160 kh_8_161 kh_8_162 k1_1 kh_8_163 ⟨by decide, by decide, by decide +kernel⟩ (by decide) rfl rfl (Nat.le_of_ble_eq_true rfl) d_La_within_4 kt ?_
  refine mCm.mono h (fun r9 M1 q => ?_)
  obtain ⟨r, rfl, q⟩ := q
  obtain ⟨ir, ko, no⟩ := hq r M1 q
  refine wm_i2l d_La_within_7 ir ?_
  refine wm_last d_La_within_8 ko ⟨by decide, by omega⟩ ⟨by have := ir.1; omega, by have := ir.2; omega⟩ ?_
  refine wm_goto (tgt := 18) d_La_within_9 rfl ?_
  refine wm_iconst d_La_within_18 ?_
  refine wm_ireturn d_La_within_19 rfl rfl ?_
  exact ⟨_, rfl, rfl, r, M1, q, rfl⟩
theorem n_La_choose {G : mG} {M : mM} {d t : Nat} {l l1 l2 : Int} {Q0 : mM → Prop} (kt : mK M t = 1) (h : Cv G y_CA_choose d [vr t, vi l1, vi l2] M Q0) : CiW G y_La_choose hs_choose (d + 1) [vr t, vi l1, vi l2] M (fun x M2 => x = 0 ∧ Q0 M2) := by
  refine wm_openW rfl (Nat.le_of_ble_eq_true rfl) (L := [vr t, vi l1, vi l2, vd]) rfl ?_
  refine wm_aload_n d_La_choose_0 rfl rfl ?_
  refine wm_iload_n d_La_choose_1 rfl rfl ?_
  refine wm_iload_n d_La_choose_2 rfl rfl ?_
  refine wm_callV (y2 := y_CA_choose) (c := 0) (n := 2) (As := [vi l1, vi l2]) rfl rfl rfl kh_8_180 kh_8_181 kh_8_182 k1_1 kh_8_183 ⟨by decide, by decide, by decide +kernel⟩ (by decide) rfl rfl (Nat.le_of_ble_eq_true rfl) d_La_choose_3 kt ?_
  refine mCm.mono h (fun r9 M1 q => ?_)
  obtain ⟨rfl, q⟩ := q
  refine wm_goto (tgt := 12) d_La_choose_6 rfl ?_
  refine wm_iconst d_La_choose_12 ?_
  refine wm_ireturn d_La_choose_13 rfl rfl ?_
  exact ⟨_, rfl, rfl, q⟩
theorem n_La_adopt {G : mG} {M : mM} {d t : Nat} {l l1 l2 : Int} {Q0 : mM → Prop} (kt : mK M t = 1) (h : Cv G y_CA_adopt d [vr t] M Q0) : CiW G y_La_adopt hs_adopt (d + 1) [vr t] M (fun x M2 => x = 0 ∧ Q0 M2) := by
  refine wm_openW rfl (Nat.le_of_ble_eq_true rfl) (L := [vr t, vd]) rfl ?_
  refine wm_aload_n d_La_adopt_0 rfl rfl ?_
  refine wm_callV (y2 := y_CA_adopt) (c := 0) (n := 0) (As := []) rfl rfl rfl kh_8_187 kh_8_188 kh_8_189 k1_1 kh_8_190 ⟨by decide, by decide, by decide +kernel⟩ (by decide) rfl rfl (Nat.le_of_ble_eq_true rfl) d_La_adopt_1 kt ?_
  refine mCm.mono h (fun r9 M1 q => ?_)
  obtain ⟨rfl, q⟩ := q
  refine wm_goto (tgt := 10) d_La_adopt_4 rfl ?_
  refine wm_iconst d_La_adopt_10 ?_
  refine wm_ireturn d_La_adopt_11 rfl rfl ?_
  exact ⟨_, rfl, rfl, q⟩
theorem n_La_judge {G : mG} {M : mM} {d t o : Nat} {l l1 l2 : Int} {Q0 : Int → mM → Prop} (kt : mK M t = 1) (h : Ci G y_CA_judge d [vr t, vi l] M Q0) (hq : ∀ r M1, Q0 r M1 → i32 r ∧ mK M1 o = 33 ∧ 0 < mN M1 o) : CiW G y_La_judge hs_judge (d + 1) [vr t, vi l, vr o] M (fun x M2 => x = 0 ∧ ∃ r M1, Q0 r M1 ∧ M2 = mUL M1 o 0 r) := by
  refine wm_openW rfl (Nat.le_of_ble_eq_true rfl) (L := [vr t, vi l, vr o, vd]) rfl ?_
  refine wm_aload_n d_La_judge_0 rfl rfl ?_
  refine wm_iconst d_La_judge_1 ?_
  refine wm_aload_n d_La_judge_2 rfl rfl ?_
  refine wm_iload_n d_La_judge_3 rfl rfl ?_
  refine wm_callV (y2 := y_CA_judge) (c := 0) (n := 1) (As := [vi l]) rfl rfl rfl kh_8_195 kh_8_196 kh_8_197 k1_1 kh_8_198 ⟨by decide, by decide, by decide +kernel⟩ (by decide) rfl rfl (Nat.le_of_ble_eq_true rfl) d_La_judge_4 kt ?_
  refine mCm.mono h (fun r9 M1 q => ?_)
  obtain ⟨r, rfl, q⟩ := q
  obtain ⟨ir, ko, no⟩ := hq r M1 q
  refine wm_i2l d_La_judge_7 ir ?_
  refine wm_last d_La_judge_8 ko ⟨by decide, by omega⟩ ⟨by have := ir.1; omega, by have := ir.2; omega⟩ ?_
  refine wm_goto (tgt := 18) d_La_judge_9 rfl ?_
  refine wm_iconst d_La_judge_18 ?_
  refine wm_ireturn d_La_judge_19 rfl rfl ?_
  exact ⟨_, rfl, rfl, r, M1, q, rfl⟩
end
section
/-! What the law's start says: all that the machine asks of it. -/
abbrev stF : List Cond := flatC (Jvm.Cond.and given_1 narrow_1)
theorem st_in {l : List Cond} {ix : List Nat} (h : l.map some = ix.map (fun i => stF[i]?)) : ∀ w ∈ l, w ∈ stF := fun w hw => by
  have : some w ∈ l.map some := List.mem_map.mpr ⟨w, hw, rfl⟩
  rw [h] at this
  obtain ⟨i, -, e⟩ := List.mem_map.mp this
  exact List.mem_of_getElem? e
theorem st_litBW_72 : (litC "ChanceArena$Words" 72 [118, 97, 114]).map some = [330, 331, 332, 333, 334, 335, 336].map (fun i => stF[i]?) := by decide +kernel
theorem sr_litBW_72 : Cond.stringRef "ChanceArena$Words" 72 "var" ∈ lw_tbl := zk_4 _ (List.mem_of_getElem? (i := 54) rfl)
theorem st_litBW_78 : (litC "ChanceArena$Words" 78 [109, 97, 120]).map some = [337, 338, 339, 340, 341, 342, 343].map (fun i => stF[i]?) := by decide +kernel
theorem sr_litBW_78 : Cond.stringRef "ChanceArena$Words" 78 "max" ∈ lw_tbl := zk_4 _ (List.mem_of_getElem? (i := 107) rfl)
theorem st_litBW_80 : (litC "ChanceArena$Words" 80 [109, 105, 110]).map some = [344, 345, 346, 347, 348, 349, 350].map (fun i => stF[i]?) := by decide +kernel
theorem sr_litBW_80 : Cond.stringRef "ChanceArena$Words" 80 "min" ∈ lw_tbl := zk_4 _ (List.mem_of_getElem? (i := 108) rfl)
theorem st_litBW_82 : (litC "ChanceArena$Words" 82 [116, 114, 117, 101]).map some = [351, 352, 353, 354, 355, 356, 357, 358].map (fun i => stF[i]?) := by decide +kernel
theorem sr_litBW_82 : Cond.stringRef "ChanceArena$Words" 82 "true" ∈ lw_tbl := zk_4 _ (List.mem_of_getElem? (i := 109) rfl)
theorem st_litBW_84 : (litC "ChanceArena$Words" 84 [115, 116, 97, 121]).map some = [359, 360, 361, 362, 363, 364, 365, 366].map (fun i => stF[i]?) := by decide +kernel
theorem sr_litBW_84 : Cond.stringRef "ChanceArena$Words" 84 "stay" ∈ lw_tbl := zk_4 _ (List.mem_of_getElem? (i := 110) rfl)
theorem st_litBW_86 : (litC "ChanceArena$Words" 86 [98, 111, 111, 108]).map some = [367, 368, 369, 370, 371, 372, 373, 374].map (fun i => stF[i]?) := by decide +kernel
theorem sr_litBW_86 : Cond.stringRef "ChanceArena$Words" 86 "bool" ∈ lw_tbl := zk_4 _ (List.mem_of_getElem? (i := 111) rfl)
theorem st_litBW_88 : (litC "ChanceArena$Words" 88 [105, 110, 105, 116]).map some = [375, 376, 377, 378, 379, 380, 381, 382].map (fun i => stF[i]?) := by decide +kernel
theorem sr_litBW_88 : Cond.stringRef "ChanceArena$Words" 88 "init" ∈ lw_tbl := zk_4 _ (List.mem_of_getElem? (i := 112) rfl)
theorem st_litBW_90 : (litC "ChanceArena$Words" 90 [109, 111, 115, 116]).map some = [383, 384, 385, 386, 387, 388, 389, 390].map (fun i => stF[i]?) := by decide +kernel
theorem sr_litBW_90 : Cond.stringRef "ChanceArena$Words" 90 "most" ∈ lw_tbl := zk_4 _ (List.mem_of_getElem? (i := 113) rfl)
theorem st_litBW_92 : (litC "ChanceArena$Words" 92 [99, 111, 110, 115, 116]).map some = [391, 392, 393, 394, 395, 396, 397, 398, 399].map (fun i => stF[i]?) := by decide +kernel
theorem sr_litBW_92 : Cond.stringRef "ChanceArena$Words" 92 "const" ∈ lw_tbl := zk_4 _ (List.mem_of_getElem? (i := 114) rfl)
theorem st_litBW_94 : (litC "ChanceArena$Words" 94 [102, 97, 108, 115, 101]).map some = [400, 401, 402, 403, 404, 405, 406, 407, 408].map (fun i => stF[i]?) := by decide +kernel
theorem sr_litBW_94 : Cond.stringRef "ChanceArena$Words" 94 "false" ∈ lw_tbl := zk_4 _ (List.mem_of_getElem? (i := 115) rfl)
theorem st_litBW_96 : (litC "ChanceArena$Words" 96 [108, 101, 97, 115, 116]).map some = [409, 410, 411, 412, 413, 414, 415, 416, 417].map (fun i => stF[i]?) := by decide +kernel
theorem sr_litBW_96 : Cond.stringRef "ChanceArena$Words" 96 "least" ∈ lw_tbl := zk_4 _ (List.mem_of_getElem? (i := 116) rfl)
theorem st_litBW_98 : (litC "ChanceArena$Words" 98 [116, 97, 114, 103, 101, 116]).map some = [418, 419, 420, 421, 422, 423, 424, 425, 426, 427].map (fun i => stF[i]?) := by decide +kernel
theorem sr_litBW_98 : Cond.stringRef "ChanceArena$Words" 98 "target" ∈ lw_tbl := zk_4 _ (List.mem_of_getElem? (i := 117) rfl)
theorem st_litBW_100 : (litC "ChanceArena$Words" 100 [102, 111, 114, 109, 117, 108, 97]).map some = [428, 429, 430, 431, 432, 433, 434, 435, 436, 437, 438].map (fun i => stF[i]?) := by decide +kernel
theorem sr_litBW_100 : Cond.stringRef "ChanceArena$Words" 100 "formula" ∈ lw_tbl := zk_4 _ (List.mem_of_getElem? (i := 118) rfl)
theorem st_litBM_176 : (litC "ChanceArenaModel" 176 [99, 111, 110, 115, 116]).map some = [511, 512, 513, 514, 515, 516, 517, 518, 519].map (fun i => stF[i]?) := by decide +kernel
theorem sr_litBM_176 : Cond.stringRef "ChanceArenaModel" 176 "const" ∈ lw_tbl := zk_11 _ (List.mem_of_getElem? (i := 42) rfl)
theorem st_litBM_182 : (litC "ChanceArenaModel" 182 [118, 97, 114]).map some = [521, 522, 523, 524, 525, 526, 527].map (fun i => stF[i]?) := by decide +kernel
theorem sr_litBM_182 : Cond.stringRef "ChanceArenaModel" 182 "var" ∈ lw_tbl := zk_11 _ (List.mem_of_getElem? (i := 49) rfl)
theorem st_litBM_184 : (litC "ChanceArenaModel" 184 [98, 111, 111, 108]).map some = [529, 530, 531, 532, 533, 534, 535, 536].map (fun i => stF[i]?) := by decide +kernel
theorem sr_litBM_184 : Cond.stringRef "ChanceArenaModel" 184 "bool" ∈ lw_tbl := zk_11 _ (List.mem_of_getElem? (i := 50) rfl)
theorem st_litBM_186 : (litC "ChanceArenaModel" 186 [102, 111, 114, 109, 117, 108, 97]).map some = [538, 539, 540, 541, 542, 543, 544, 545, 546, 547, 548].map (fun i => stF[i]?) := by decide +kernel
theorem sr_litBM_186 : Cond.stringRef "ChanceArenaModel" 186 "formula" ∈ lw_tbl := zk_11 _ (List.mem_of_getElem? (i := 51) rfl)
theorem st_litBM_188 : (litC "ChanceArenaModel" 188 [102, 97, 108, 115, 101]).map some = [550, 551, 552, 553, 554, 555, 556, 557, 558].map (fun i => stF[i]?) := by decide +kernel
theorem sr_litBM_188 : Cond.stringRef "ChanceArenaModel" 188 "false" ∈ lw_tbl := zk_11 _ (List.mem_of_getElem? (i := 52) rfl)
theorem st_litBM_190 : (litC "ChanceArenaModel" 190 [109, 97, 120]).map some = [560, 561, 562, 563, 564, 565, 566].map (fun i => stF[i]?) := by decide +kernel
theorem sr_litBM_190 : Cond.stringRef "ChanceArenaModel" 190 "max" ∈ lw_tbl := zk_11 _ (List.mem_of_getElem? (i := 53) rfl)
theorem st_litBM_192 : (litC "ChanceArenaModel" 192 [109, 105, 110]).map some = [568, 569, 570, 571, 572, 573, 574].map (fun i => stF[i]?) := by decide +kernel
theorem sr_litBM_192 : Cond.stringRef "ChanceArenaModel" 192 "min" ∈ lw_tbl := zk_11 _ (List.mem_of_getElem? (i := 54) rfl)
theorem st_litBM_194 : (litC "ChanceArenaModel" 194 [109, 111, 115, 116]).map some = [576, 577, 578, 579, 580, 581, 582, 583].map (fun i => stF[i]?) := by decide +kernel
theorem sr_litBM_194 : Cond.stringRef "ChanceArenaModel" 194 "most" ∈ lw_tbl := zk_11 _ (List.mem_of_getElem? (i := 55) rfl)
theorem st_litBM_196 : (litC "ChanceArenaModel" 196 [105, 110, 105, 116]).map some = [585, 586, 587, 588, 589, 590, 591, 592].map (fun i => stF[i]?) := by decide +kernel
theorem sr_litBM_196 : Cond.stringRef "ChanceArenaModel" 196 "init" ∈ lw_tbl := zk_11 _ (List.mem_of_getElem? (i := 56) rfl)
theorem st_litBM_198 : (litC "ChanceArenaModel" 198 [115, 116, 97, 121]).map some = [594, 595, 596, 597, 598, 599, 600, 601].map (fun i => stF[i]?) := by decide +kernel
theorem sr_litBM_198 : Cond.stringRef "ChanceArenaModel" 198 "stay" ∈ lw_tbl := zk_11 _ (List.mem_of_getElem? (i := 57) rfl)
theorem st_litBM_200 : (litC "ChanceArenaModel" 200 [116, 97, 114, 103, 101, 116]).map some = [603, 604, 605, 606, 607, 608, 609, 610, 611, 612].map (fun i => stF[i]?) := by decide +kernel
theorem sr_litBM_200 : Cond.stringRef "ChanceArenaModel" 200 "target" ∈ lw_tbl := zk_11 _ (List.mem_of_getElem? (i := 58) rfl)
theorem st_litBM_202 : (litC "ChanceArenaModel" 202 [116, 114, 117, 101]).map some = [614, 615, 616, 617, 618, 619, 620, 621].map (fun i => stF[i]?) := by decide +kernel
theorem sr_litBM_202 : Cond.stringRef "ChanceArenaModel" 202 "true" ∈ lw_tbl := zk_11 _ (List.mem_of_getElem? (i := 59) rfl)
theorem st_litBM_204 : (litC "ChanceArenaModel" 204 [108, 101, 97, 115, 116]).map some = [623, 624, 625, 626, 627, 628, 629, 630, 631].map (fun i => stF[i]?) := by decide +kernel
theorem sr_litBM_204 : Cond.stringRef "ChanceArenaModel" 204 "least" ∈ lw_tbl := zk_11 _ (List.mem_of_getElem? (i := 60) rfl)
theorem st_pr : ((List.range 36).map (fun j => Cond.eq (.elem (.static "ChanceArena$Residues" "PRIMES" "[I") (.int (Int32.ofNat j))) (.int (Int32.ofInt (prL.getD j 0))))).map some = [220, 221, 222, 223, 224, 225, 226, 227, 228, 229, 230, 231, 232, 233, 234, 235, 236, 237, 238, 239, 240, 241, 242, 243, 244, 245, 246, 247, 248, 249, 250, 251, 252, 253, 254, 255].map (fun i => stF[i]?) := by decide +kernel
section STT
variable {G : mG} {args : Array Value}
theorem st_all (hB : gB G = (gS G).heap.size) (htr : (gL G).stackTraces = false) (hts : ∀ w ∈ lw_tbl, w.before args (gS G) = true) (hn : (Jvm.Cond.and given_1 narrow_1).before args (gS G) = true) : LT G ∧ gPr G ∧ TH G := by
  have hs : ∀ w ∈ stF, w.before args (gS G) = true := flat_of_before _ hn
  have hJ : JD G := JD.of (args := args) hB (hts _ (zk_4 _ (List.mem_of_getElem? (i := 68) rfl))) (hts _ (zk_1 _ (List.mem_of_getElem? (i := 26) rfl))) (hs _ (List.mem_of_getElem? (i := 4) (by decide +kernel))) (hts _ (zk_4 _ (List.mem_of_getElem? (i := 84) rfl))) (hts _ (zk_1 _ (List.mem_of_getElem? (i := 28) rfl))) (hs _ (List.mem_of_getElem? (i := 5) (by decide +kernel)))
  refine ⟨LT.of (args := args) hB hJ (List.forall_mem_cons.mpr ⟨⟨hts _ sr_litBW_72, fun w hw => hs w (st_in st_litBW_72 w hw)⟩, List.forall_mem_cons.mpr ⟨⟨hts _ sr_litBW_78, fun w hw => hs w (st_in st_litBW_78 w hw)⟩, List.forall_mem_cons.mpr ⟨⟨hts _ sr_litBW_80, fun w hw => hs w (st_in st_litBW_80 w hw)⟩, List.forall_mem_cons.mpr ⟨⟨hts _ sr_litBW_82, fun w hw => hs w (st_in st_litBW_82 w hw)⟩, List.forall_mem_cons.mpr ⟨⟨hts _ sr_litBW_84, fun w hw => hs w (st_in st_litBW_84 w hw)⟩, List.forall_mem_cons.mpr ⟨⟨hts _ sr_litBW_86, fun w hw => hs w (st_in st_litBW_86 w hw)⟩, List.forall_mem_cons.mpr ⟨⟨hts _ sr_litBW_88, fun w hw => hs w (st_in st_litBW_88 w hw)⟩, List.forall_mem_cons.mpr ⟨⟨hts _ sr_litBW_90, fun w hw => hs w (st_in st_litBW_90 w hw)⟩, List.forall_mem_cons.mpr ⟨⟨hts _ sr_litBW_92, fun w hw => hs w (st_in st_litBW_92 w hw)⟩, List.forall_mem_cons.mpr ⟨⟨hts _ sr_litBW_94, fun w hw => hs w (st_in st_litBW_94 w hw)⟩, List.forall_mem_cons.mpr ⟨⟨hts _ sr_litBW_96, fun w hw => hs w (st_in st_litBW_96 w hw)⟩, List.forall_mem_cons.mpr ⟨⟨hts _ sr_litBW_98, fun w hw => hs w (st_in st_litBW_98 w hw)⟩, List.forall_mem_cons.mpr ⟨⟨hts _ sr_litBW_100, fun w hw => hs w (st_in st_litBW_100 w hw)⟩, fun _ h => absurd h List.not_mem_nil⟩⟩⟩⟩⟩⟩⟩⟩⟩⟩⟩⟩⟩) (List.forall_mem_cons.mpr ⟨⟨hts _ sr_litBM_176, fun w hw => hs w (st_in st_litBM_176 w hw)⟩, List.forall_mem_cons.mpr ⟨⟨hts _ sr_litBM_182, fun w hw => hs w (st_in st_litBM_182 w hw)⟩, List.forall_mem_cons.mpr ⟨⟨hts _ sr_litBM_184, fun w hw => hs w (st_in st_litBM_184 w hw)⟩, List.forall_mem_cons.mpr ⟨⟨hts _ sr_litBM_186, fun w hw => hs w (st_in st_litBM_186 w hw)⟩, List.forall_mem_cons.mpr ⟨⟨hts _ sr_litBM_188, fun w hw => hs w (st_in st_litBM_188 w hw)⟩, List.forall_mem_cons.mpr ⟨⟨hts _ sr_litBM_190, fun w hw => hs w (st_in st_litBM_190 w hw)⟩, List.forall_mem_cons.mpr ⟨⟨hts _ sr_litBM_192, fun w hw => hs w (st_in st_litBM_192 w hw)⟩, List.forall_mem_cons.mpr ⟨⟨hts _ sr_litBM_194, fun w hw => hs w (st_in st_litBM_194 w hw)⟩, List.forall_mem_cons.mpr ⟨⟨hts _ sr_litBM_196, fun w hw => hs w (st_in st_litBM_196 w hw)⟩, List.forall_mem_cons.mpr ⟨⟨hts _ sr_litBM_198, fun w hw => hs w (st_in st_litBM_198 w hw)⟩, List.forall_mem_cons.mpr ⟨⟨hts _ sr_litBM_200, fun w hw => hs w (st_in st_litBM_200 w hw)⟩, List.forall_mem_cons.mpr ⟨⟨hts _ sr_litBM_202, fun w hw => hs w (st_in st_litBM_202 w hw)⟩, List.forall_mem_cons.mpr ⟨⟨hts _ sr_litBM_204, fun w hw => hs w (st_in st_litBM_204 w hw)⟩, fun _ h => absurd h List.not_mem_nil⟩⟩⟩⟩⟩⟩⟩⟩⟩⟩⟩⟩⟩), gPr.of (args := args) hB (hts _ (zk_8 _ (List.mem_of_getElem? (i := 118) rfl))) (hts _ (zk_1 _ (List.mem_of_getElem? (i := 12) rfl))) (hs _ (List.mem_of_getElem? (i := 218) (by decide +kernel))) (hs _ (List.mem_of_getElem? (i := 219) (by decide +kernel))) (fun j hj => hs _ (st_in st_pr _ (List.mem_map.mpr ⟨j, List.mem_range.mpr hj, rfl⟩))), TH.of (args := args) hB htr (List.forall_mem_cons.mpr ⟨(hs _ (List.mem_of_getElem? (i := 9) (by decide +kernel))), List.forall_mem_cons.mpr ⟨(hs _ (List.mem_of_getElem? (i := 10) (by decide +kernel))), List.forall_mem_cons.mpr ⟨(hts _ (zk_6 _ (List.mem_of_getElem? (i := 45) rfl))), List.forall_mem_cons.mpr ⟨(hts _ (zk_6 _ (List.mem_of_getElem? (i := 47) rfl))), fun _ h => absurd h List.not_mem_nil⟩⟩⟩⟩)⟩
end STT
end
