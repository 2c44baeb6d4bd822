section
/-! Strings: old cells, only read; what the class and the reference ask of them. -/
theorem kt_lenW : (Jvm.Cond.methodLink "ChanceArena$Words" (102 : Nat) ({ cls := "java/lang/String", name := "length", desc := "()I" } : Jvm.MethodName)) ∈ lw_R := zR (zk_4 _ (List.mem_of_getElem? (i := 59) rfl)) rfl
theorem kt_lenI : (Jvm.Cond.instanceMethod ({ cls := "java/lang/String", name := "length", desc := "()I" } : Jvm.MethodName)) ∈ lw_R := zR (zk_4 _ (List.mem_of_getElem? (i := 60) rfl)) rfl
theorem kt_lenS : (Jvm.Cond.selects "java/lang/String" ({ cls := "java/lang/String", name := "length", desc := "()I" } : Jvm.MethodName) ({ cls := "java/lang/String", name := "length", desc := "()I" } : Jvm.MethodName)) ∈ lw_R := zR (zk_4 _ (List.mem_of_getElem? (i := 61) rfl)) rfl
theorem kt_lenC : (Jvm.Cond.code ({ cls := "java/lang/String", name := "length", desc := "()I" } : Jvm.MethodName) prog_33_method_54_code (1 : Nat) (Option.some Jvm.ClassFile.FieldType.int)) ∈ lw_R := zR (zk_4 _ (List.mem_of_getElem? (i := 62) rfl)) rfl
theorem kt_codL : (Jvm.Cond.methodLink "java/lang/String" (335 : Nat) ({ cls := "java/lang/String", name := "coder", desc := "()B" } : Jvm.MethodName)) ∈ lw_R := zR (zk_4 _ (List.mem_of_getElem? (i := 63) rfl)) rfl
theorem kt_codI : (Jvm.Cond.instanceMethod ({ cls := "java/lang/String", name := "coder", desc := "()B" } : Jvm.MethodName)) ∈ lw_R := zR (zk_4 _ (List.mem_of_getElem? (i := 64) rfl)) rfl
theorem kt_codS : (Jvm.Cond.selects "java/lang/String" ({ cls := "java/lang/String", name := "coder", desc := "()B" } : Jvm.MethodName) ({ cls := "java/lang/String", name := "coder", desc := "()B" } : Jvm.MethodName)) ∈ lw_R := zR (zk_4 _ (List.mem_of_getElem? (i := 65) rfl)) rfl
theorem kt_codC : (Jvm.Cond.code ({ cls := "java/lang/String", name := "coder", desc := "()B" } : Jvm.MethodName) prog_33_method_152_code (1 : Nat) (Option.some Jvm.ClassFile.FieldType.byte)) ∈ lw_R := zR (zk_4 _ (List.mem_of_getElem? (i := 66) rfl)) rfl
theorem kt_cmp : (Jvm.Cond.fieldLink "java/lang/String" (38 : Nat) "java/lang/String" "COMPACT_STRINGS" "Z") ∈ lw_R := zR (zk_4 _ (List.mem_of_getElem? (i := 67) rfl)) rfl
theorem kt_chaW : (Jvm.Cond.methodLink "ChanceArena$Words" (107 : Nat) ({ cls := "java/lang/String", name := "charAt", desc := "(I)C" } : Jvm.MethodName)) ∈ lw_R := zR (zk_4 _ (List.mem_of_getElem? (i := 69) rfl)) rfl
theorem kt_chaI : (Jvm.Cond.instanceMethod ({ cls := "java/lang/String", name := "charAt", desc := "(I)C" } : Jvm.MethodName)) ∈ lw_R := zR (zk_4 _ (List.mem_of_getElem? (i := 70) rfl)) rfl
theorem kt_chaS : (Jvm.Cond.selects "java/lang/String" ({ cls := "java/lang/String", name := "charAt", desc := "(I)C" } : Jvm.MethodName) ({ cls := "java/lang/String", name := "charAt", desc := "(I)C" } : Jvm.MethodName)) ∈ lw_R := zR (zk_4 _ (List.mem_of_getElem? (i := 71) rfl)) rfl
theorem kt_chaC : (Jvm.Cond.code ({ cls := "java/lang/String", name := "charAt", desc := "(I)C" } : Jvm.MethodName) prog_33_method_56_code (2 : Nat) (Option.some Jvm.ClassFile.FieldType.char)) ∈ lw_R := zR (zk_4 _ (List.mem_of_getElem? (i := 72) rfl)) rfl
theorem kt_latL : (Jvm.Cond.methodLink "java/lang/String" (492 : Nat) ({ cls := "java/lang/String", name := "isLatin1", desc := "()Z" } : Jvm.MethodName)) ∈ lw_R := zR (zk_4 _ (List.mem_of_getElem? (i := 73) rfl)) rfl
theorem kt_latI : (Jvm.Cond.instanceMethod ({ cls := "java/lang/String", name := "isLatin1", desc := "()Z" } : Jvm.MethodName)) ∈ lw_R := zR (zk_4 _ (List.mem_of_getElem? (i := 74) rfl)) rfl
theorem kt_latS : (Jvm.Cond.selects "java/lang/String" ({ cls := "java/lang/String", name := "isLatin1", desc := "()Z" } : Jvm.MethodName) ({ cls := "java/lang/String", name := "isLatin1", desc := "()Z" } : Jvm.MethodName)) ∈ lw_R := zR (zk_4 _ (List.mem_of_getElem? (i := 75) rfl)) rfl
theorem kt_latC : (Jvm.Cond.code ({ cls := "java/lang/String", name := "isLatin1", desc := "()Z" } : Jvm.MethodName) prog_33_method_154_code (1 : Nat) (Option.some Jvm.ClassFile.FieldType.boolean)) ∈ lw_R := zR (zk_4 _ (List.mem_of_getElem? (i := 76) rfl)) rfl
theorem kt_ltcL : (Jvm.Cond.methodLink "java/lang/String" (495 : Nat) ({ cls := "java/lang/StringLatin1", name := "charAt", desc := "([BI)C" } : Jvm.MethodName)) ∈ lw_R := zR (zk_4 _ (List.mem_of_getElem? (i := 77) rfl)) rfl
theorem kt_ltcS : (Jvm.Cond.static ({ cls := "java/lang/StringLatin1", name := "charAt", desc := "([BI)C" } : Jvm.MethodName)) ∈ lw_R := zR (zk_4 _ (List.mem_of_getElem? (i := 78) rfl)) rfl
theorem kt_ltcC : (Jvm.Cond.code ({ cls := "java/lang/StringLatin1", name := "charAt", desc := "([BI)C" } : Jvm.MethodName) prog_35_method_2_code (2 : Nat) (Option.some Jvm.ClassFile.FieldType.char)) ∈ lw_R := zR (zk_4 _ (List.mem_of_getElem? (i := 79) rfl)) rfl
theorem kt_chkL : (Jvm.Cond.methodLink "java/lang/StringLatin1" (9 : Nat) ({ cls := "java/lang/String", name := "checkIndex", desc := "(II)V" } : Jvm.MethodName)) ∈ lw_R := zR (zk_4 _ (List.mem_of_getElem? (i := 80) rfl)) rfl
theorem kt_chkS : (Jvm.Cond.static ({ cls := "java/lang/String", name := "checkIndex", desc := "(II)V" } : Jvm.MethodName)) ∈ lw_R := zR (zk_4 _ (List.mem_of_getElem? (i := 81) rfl)) rfl
theorem kt_chkC : (Jvm.Cond.code ({ cls := "java/lang/String", name := "checkIndex", desc := "(II)V" } : Jvm.MethodName) prog_33_method_155_code (2 : Nat) (Option.none : Option Jvm.ClassFile.FieldType)) ∈ lw_R := zR (zk_4 _ (List.mem_of_getElem? (i := 82) rfl)) rfl
theorem kt_fmt : (Jvm.Cond.fieldLink "java/lang/String" (1053 : Nat) "jdk/internal/util/Preconditions" "SIOOBE_FORMATTER" "Ljava/util/function/BiFunction;") ∈ lw_R := zR (zk_4 _ (List.mem_of_getElem? (i := 83) rfl)) rfl
theorem kt_preL : (Jvm.Cond.methodLink "java/lang/String" (1059 : Nat) ({ cls := "jdk/internal/util/Preconditions", name := "checkIndex", desc := "(IILjava/util/function/BiFunction;)I" } : Jvm.MethodName)) ∈ lw_R := zR (zk_4 _ (List.mem_of_getElem? (i := 85) rfl)) rfl
theorem kt_preS : (Jvm.Cond.static ({ cls := "jdk/internal/util/Preconditions", name := "checkIndex", desc := "(IILjava/util/function/BiFunction;)I" } : Jvm.MethodName)) ∈ lw_R := zR (zk_4 _ (List.mem_of_getElem? (i := 86) rfl)) rfl
theorem kt_preC : (Jvm.Cond.code ({ cls := "jdk/internal/util/Preconditions", name := "checkIndex", desc := "(IILjava/util/function/BiFunction;)I" } : Jvm.MethodName) prog_41_method_11_code (3 : Nat) (Option.some Jvm.ClassFile.FieldType.int)) ∈ lw_R := zR (zk_4 _ (List.mem_of_getElem? (i := 87) rfl)) rfl
theorem kt_lenM : (Jvm.Cond.methodLink "ChanceArenaModel" (166 : Nat) ({ cls := "java/lang/String", name := "length", desc := "()I" } : Jvm.MethodName)) ∈ lw_R := zR (zk_11 _ (List.mem_of_getElem? (i := 43) rfl)) rfl
theorem kt_chaM : (Jvm.Cond.methodLink "ChanceArenaModel" (172 : Nat) ({ cls := "java/lang/String", name := "charAt", desc := "(I)C" } : Jvm.MethodName)) ∈ lw_R := zR (zk_11 _ (List.mem_of_getElem? (i := 44) rfl)) rfl
theorem kt_val : (Jvm.Cond.fieldLink "java/lang/String" (9 : Nat) "java/lang/String" "value" "[B") ∈ lw_R := zR (zk_7 _ (List.mem_of_getElem? (i := 41) rfl)) rfl
theorem kt_cod : (Jvm.Cond.fieldLink "java/lang/String" (15 : Nat) "java/lang/String" "coder" "B") ∈ lw_R := zR (zk_7 _ (List.mem_of_getElem? (i := 42) rfl)) rfl
theorem kt_iS : (Jvm.Cond.initialized "java/lang/String") ∈ lw_R := zR (zk_1 _ (List.mem_of_getElem? (i := 26) rfl)) rfl
theorem kt_iT : (Jvm.Cond.initialized "java/lang/StringLatin1") ∈ lw_R := zR (zk_1 _ (List.mem_of_getElem? (i := 27) rfl)) rfl
theorem kt_iP : (Jvm.Cond.initialized "jdk/internal/util/Preconditions") ∈ lw_R := zR (zk_1 _ (List.mem_of_getElem? (i := 28) rfl)) rfl
def y_JS_length : mY := (({ cls := "java/lang/String", name := "length", desc := "()I" } : Jvm.MethodName), prog_33_method_54_code, 1, (Option.some Jvm.ClassFile.FieldType.int))
def y_JS_coder : mY := (({ cls := "java/lang/String", name := "coder", desc := "()B" } : Jvm.MethodName), prog_33_method_152_code, 1, (Option.some Jvm.ClassFile.FieldType.byte))
def y_JS_charAt : mY := (({ cls := "java/lang/String", name := "charAt", desc := "(I)C" } : Jvm.MethodName), prog_33_method_56_code, 2, (Option.some Jvm.ClassFile.FieldType.char))
def y_JS_isLatin1 : mY := (({ cls := "java/lang/String", name := "isLatin1", desc := "()Z" } : Jvm.MethodName), prog_33_method_154_code, 1, (Option.some Jvm.ClassFile.FieldType.boolean))
def y_JS_checkIndex : mY := (({ cls := "java/lang/String", name := "checkIndex", desc := "(II)V" } : Jvm.MethodName), prog_33_method_155_code, 2, (Option.none : Option Jvm.ClassFile.FieldType))
def y_JT_charAt : mY := (({ cls := "java/lang/StringLatin1", name := "charAt", desc := "([BI)C" } : Jvm.MethodName), prog_35_method_2_code, 2, (Option.some Jvm.ClassFile.FieldType.char))
def y_JP_checkIndex : mY := (({ cls := "jdk/internal/util/Preconditions", name := "checkIndex", desc := "(IILjava/util/function/BiFunction;)I" } : Jvm.MethodName), prog_41_method_11_code, 3, (Option.some Jvm.ClassFile.FieldType.int))
theorem d_JS_coder_0 : decode y_JS_coder.2.1 0 = .ok (.getstatic 38, 3) := dc9_178 (by decide +kernel)
theorem d_JS_coder_3 : decode y_JS_coder.2.1 3 = .ok (.ifCond .eq 10, 3) := dc9_153 (by decide +kernel)
theorem d_JS_coder_6 : decode y_JS_coder.2.1 6 = .ok (.aload_n 0, 1) := dc9_42 (by decide +kernel)
theorem d_JS_coder_7 : decode y_JS_coder.2.1 7 = .ok (.getfield 15, 3) := dc9_180 (by decide +kernel)
theorem d_JS_coder_10 : decode y_JS_coder.2.1 10 = .ok (.goto 4, 3) := dc9_167 (by decide +kernel)
theorem d_JS_coder_14 : decode y_JS_coder.2.1 14 = .ok (.ireturn, 1) := dc9_172 (by decide +kernel)
theorem d_JS_length_0 : decode y_JS_length.2.1 0 = .ok (.aload_n 0, 1) := dc9_42 (by decide +kernel)
theorem d_JS_length_1 : decode y_JS_length.2.1 1 = .ok (.getfield 9, 3) := dc9_180 (by decide +kernel)
theorem d_JS_length_4 : decode y_JS_length.2.1 4 = .ok (.arraylength, 1) := dc9_190 (by decide +kernel)
theorem d_JS_length_5 : decode y_JS_length.2.1 5 = .ok (.aload_n 0, 1) := dc9_42 (by decide +kernel)
theorem d_JS_length_6 : decode y_JS_length.2.1 6 = .ok (.invokevirtual 335, 3) := dc9_182 (by decide +kernel)
theorem d_JS_length_9 : decode y_JS_length.2.1 9 = .ok (.ishr, 1) := dc9_122 (by decide +kernel)
theorem d_JS_length_10 : decode y_JS_length.2.1 10 = .ok (.ireturn, 1) := dc9_172 (by decide +kernel)
theorem d_JS_isLatin1_0 : decode y_JS_isLatin1.2.1 0 = .ok (.getstatic 38, 3) := dc9_178 (by decide +kernel)
theorem d_JS_isLatin1_3 : decode y_JS_isLatin1.2.1 3 = .ok (.ifCond .eq 14, 3) := dc9_153 (by decide +kernel)
theorem d_JS_isLatin1_6 : decode y_JS_isLatin1.2.1 6 = .ok (.aload_n 0, 1) := dc9_42 (by decide +kernel)
theorem d_JS_isLatin1_7 : decode y_JS_isLatin1.2.1 7 = .ok (.getfield 15, 3) := dc9_180 (by decide +kernel)
theorem d_JS_isLatin1_10 : decode y_JS_isLatin1.2.1 10 = .ok (.ifCond .ne 7, 3) := dc9_154 (by decide +kernel)
theorem d_JS_isLatin1_13 : decode y_JS_isLatin1.2.1 13 = .ok (.iconst 1, 1) := dc9_4 (by decide +kernel)
theorem d_JS_isLatin1_14 : decode y_JS_isLatin1.2.1 14 = .ok (.goto 4, 3) := dc9_167 (by decide +kernel)
theorem d_JS_isLatin1_18 : decode y_JS_isLatin1.2.1 18 = .ok (.ireturn, 1) := dc9_172 (by decide +kernel)
theorem d_JS_charAt_0 : decode y_JS_charAt.2.1 0 = .ok (.aload_n 0, 1) := dc9_42 (by decide +kernel)
theorem d_JS_charAt_1 : decode y_JS_charAt.2.1 1 = .ok (.invokevirtual 492, 3) := dc9_182 (by decide +kernel)
theorem d_JS_charAt_4 : decode y_JS_charAt.2.1 4 = .ok (.ifCond .eq 12, 3) := dc9_153 (by decide +kernel)
theorem d_JS_charAt_7 : decode y_JS_charAt.2.1 7 = .ok (.aload_n 0, 1) := dc9_42 (by decide +kernel)
theorem d_JS_charAt_8 : decode y_JS_charAt.2.1 8 = .ok (.getfield 9, 3) := dc9_180 (by decide +kernel)
theorem d_JS_charAt_11 : decode y_JS_charAt.2.1 11 = .ok (.iload_n 1, 1) := dc9_27 (by decide +kernel)
theorem d_JS_charAt_12 : decode y_JS_charAt.2.1 12 = .ok (.invokestatic 495, 3) := dc9_184 (by decide +kernel)
theorem d_JS_charAt_15 : decode y_JS_charAt.2.1 15 = .ok (.ireturn, 1) := dc9_172 (by decide +kernel)
theorem d_JT_charAt_0 : decode y_JT_charAt.2.1 0 = .ok (.iload_n 1, 1) := dc9_27 (by decide +kernel)
theorem d_JT_charAt_1 : decode y_JT_charAt.2.1 1 = .ok (.aload_n 0, 1) := dc9_42 (by decide +kernel)
theorem d_JT_charAt_2 : decode y_JT_charAt.2.1 2 = .ok (.arraylength, 1) := dc9_190 (by decide +kernel)
theorem d_JT_charAt_3 : decode y_JT_charAt.2.1 3 = .ok (.invokestatic 9, 3) := dc9_184 (by decide +kernel)
theorem d_JT_charAt_6 : decode y_JT_charAt.2.1 6 = .ok (.aload_n 0, 1) := dc9_42 (by decide +kernel)
theorem d_JT_charAt_7 : decode y_JT_charAt.2.1 7 = .ok (.iload_n 1, 1) := dc9_27 (by decide +kernel)
theorem d_JT_charAt_8 : decode y_JT_charAt.2.1 8 = .ok (.baload, 1) := dc9_51 (by decide +kernel)
theorem d_JT_charAt_9 : decode y_JT_charAt.2.1 9 = .ok (.sipush 255, 3) := dc9_17 (by decide +kernel)
theorem d_JT_charAt_12 : decode y_JT_charAt.2.1 12 = .ok (.iand, 1) := dc9_126 (by decide +kernel)
theorem d_JT_charAt_13 : decode y_JT_charAt.2.1 13 = .ok (.i2c, 1) := dc9_146 (by decide +kernel)
theorem d_JT_charAt_14 : decode y_JT_charAt.2.1 14 = .ok (.ireturn, 1) := dc9_172 (by decide +kernel)
theorem d_JS_checkIndex_0 : decode y_JS_checkIndex.2.1 0 = .ok (.iload_n 0, 1) := dc9_26 (by decide +kernel)
theorem d_JS_checkIndex_1 : decode y_JS_checkIndex.2.1 1 = .ok (.iload_n 1, 1) := dc9_27 (by decide +kernel)
theorem d_JS_checkIndex_2 : decode y_JS_checkIndex.2.1 2 = .ok (.getstatic 1053, 3) := dc9_178 (by decide +kernel)
theorem d_JS_checkIndex_5 : decode y_JS_checkIndex.2.1 5 = .ok (.invokestatic 1059, 3) := dc9_184 (by decide +kernel)
theorem d_JS_checkIndex_8 : decode y_JS_checkIndex.2.1 8 = .ok (.pop, 1) := dc9_87 (by decide +kernel)
theorem d_JS_checkIndex_9 : decode y_JS_checkIndex.2.1 9 = .ok (.return_, 1) := dc9_177 (by decide +kernel)
theorem d_JP_checkIndex_0 : decode y_JP_checkIndex.2.1 0 = .ok (.iload_n 0, 1) := dc9_26 (by decide +kernel)
theorem d_JP_checkIndex_1 : decode y_JP_checkIndex.2.1 1 = .ok (.ifCond .lt 8, 3) := dc9_155 (by decide +kernel)
theorem d_JP_checkIndex_4 : decode y_JP_checkIndex.2.1 4 = .ok (.iload_n 0, 1) := dc9_26 (by decide +kernel)
theorem d_JP_checkIndex_5 : decode y_JP_checkIndex.2.1 5 = .ok (.iload_n 1, 1) := dc9_27 (by decide +kernel)
theorem d_JP_checkIndex_6 : decode y_JP_checkIndex.2.1 6 = .ok (.if_icmp .lt 10, 3) := dc9_161 (by decide +kernel)
theorem d_JP_checkIndex_16 : decode y_JP_checkIndex.2.1 16 = .ok (.iload_n 0, 1) := dc9_26 (by decide +kernel)
theorem d_JP_checkIndex_17 : decode y_JP_checkIndex.2.1 17 = .ok (.ireturn, 1) := dc9_172 (by decide +kernel)
/-- an old array of n bytes f -/
def BA (G : mG) (A n : Nat) (f : Nat → Int) : Prop := va_T .byte A n (fun j => .int (Int32.ofInt (f j))) (mOwn G) (gS G) (gS G).heap ∧ n < 100 ∧ ∀ j, j < n → 0 ≤ f j ∧ f j < 128
/-- an old string of n letters f -/
def Str (G : mG) (t n : Nat) (f : Nat → Int) : Prop := va_O "java/lang/String" t (mOwn G) (gS G) (gS G).heap ∧ va_OF "java/lang/String" "coder" "B" (mcv (vi 0)) t (mOwn G) (gS G) (gS G).heap ∧ ∃ A : Nat, va_OF "java/lang/String" "value" "[B" (mcv (vo A)) t (mOwn G) (gS G) (gS G).heap ∧ BA G A n f
/-- what the classes of the JDK hold of themselves -/
def JD (G : mG) : Prop := va_Z "java/lang/String" "COMPACT_STRINGS" "Z" (mcv (vi 1)) (mOwn G) (gS G) (gS G).heap ∧ va_Zq "jdk/internal/util/Preconditions" "SIOOBE_FORMATTER" "Ljava/util/function/BiFunction;" (mOwn G) (gS G) (gS G).heap
section STR
variable {G : mG} {y y2 : mY} {d pc t n A : Nat} {f : Nat → Int} {L st As : List mV} {M : mM} {Q : Option mV → mM → Prop} {H : Heap}
theorem mRep.oq (hR : mRep G M H) : ∀ a : Nat, a < (gS G).heap.size → ¬ mOwn G a → H[a]? = (gS G).heap[a]? := fun a _ ha => hR.2.2.2.2.1 a (Nat.not_le.mp ha)
theorem wm_aldO_n {k0 : Fin 4} {i x : Nat} (hd : decode y.2.1 pc = .ok (.aload_n k0, 1)) (hi : (k0 : Nat) = i) (hv : L[i]? = some (vo x)) (h : mWm G y d (pc + 1) L (vo x :: st) M Q) : mWm G y d pc L st M Q :=
  wm_st (fun p e R s m args below meth c H locs cells slots ls Qf hA hR hL k => lv_aload_n hA.1 hA.2.1 hd hi (hL.at hv rfl) k) h
theorem wm_ldcS {own tx : String} {idx : Nat} (ho : y.1.cls = own) (hZ : vk_R own idx tx t (gS G)) (hd : decode y.2.1 pc = .ok (.ldc idx, 2)) (h : mWm G y d (pc + 2) L (vo t :: st) M Q) : mWm G y d pc L st M Q :=
  wm_st (fun p e R s m args below meth c H locs cells slots ls Qf hA hR hL k => by
    obtain ⟨hx, hb, hml, -, -, -, hown, hKK, hts, hh, hal, -⟩ := hA
    exact va_ldcS hx hb (own := own) (by rw [← ho]; exact hown) (hal.2 _ _ _ _ hZ) hd k) h
theorem wm_getfO {idx : Nat} {o nm dd : String} {v : mV} (hw : Cond.fieldLink y.1.cls idx o nm dd ∈ lw_R) (hE : va_OF o nm dd (mcv v) t (mOwn G) (gS G) (gS G).heap) (hd : decode y.2.1 pc = .ok (.getfield idx, 3)) (h : mWm G y d (pc + 3) L (v :: st) M Q) : mWm G y d pc L (vo t :: st) M Q :=
  wm_st (fun p e R s m args below meth c H locs cells slots ls Qf hA hR hL k => by
    obtain ⟨hx, hb, hml, -, -, -, hown, hKK, hts, hh, hal, -⟩ := hA
    obtain ⟨cf, kf, i, fd, cell, h1, h2, h3, h4, h5, h6⟩ := (hE.moved hal.1).kept hR.oq
    exact W.getf hx hb hown (hts _ hw) h1 h2 h3 h4 (v := mcv v) h5 rfl rfl hd k) h
theorem wm_alenO (hT : BA G A n f) (hd : decode y.2.1 pc = .ok (.arraylength, 1)) (h : mWm G y d (pc + 1) L (vi n :: st) M Q) : mWm G y d pc L (vo A :: st) M Q :=
  wm_st (fun p e R s m args below meth c H locs cells slots ls Qf hA hR hL k => by
    obtain ⟨hx, hb, hml, -, -, -, hown, hKK, hts, hh, hal, -⟩ := hA
    obtain ⟨cell, g1, g2, g3, g4, g5, g6, g7⟩ := (hT.1.moved hal.1).kept hR.oq
    exact W.alen (n := Int32.ofInt (n : Int)) hx hb g1 g2 (by rw [g5]; rfl) rfl rfl hd k) h
theorem wm_baldO {i : Int} (hT : BA G A n f) (hi : 0 ≤ i ∧ i < n) (hd : decode y.2.1 pc = .ok (.baload, 1)) (h : mWm G y d (pc + 1) L (vi (f i.toNat) :: st) M Q) : mWm G y d pc L (vi i :: vo A :: st) M Q :=
  wm_st (fun p e R s m args below meth c H locs cells slots ls Qf hA hR hL k => by
    obtain ⟨hx, hb, hml, -, -, -, hown, hKK, hts, hh, hal, -⟩ := hA
    obtain ⟨cell, g1, g2, g3, g4, g5, g6, g7⟩ := (hT.1.moved hal.1).kept hR.oq
    have hn := hT.2.1
    have hi3 : i32 i := ⟨by omega, by omega⟩
    exact W.bald (v := mcv (vi (f i.toNat))) hx hb g1 g2 g3 (by rw [i32_lt0 hi3, i32_clamp hi3]; omega) (by rw [i32_clamp hi3]; exact g6 _ (by omega)) rfl rfl hd k) h
theorem wm_getsO {idx : Nat} {C nm dd : String} {v : mV} (hw : Cond.fieldLink y.1.cls idx C nm dd ∈ lw_R) (hZ : va_Z C nm dd (mcv v) (mOwn G) (gS G) (gS G).heap) (hd : decode y.2.1 pc = .ok (.getstatic idx, 3)) (h : mWm G y d (pc + 3) L (v :: st) M Q) : mWm G y d pc L st M Q :=
  wm_st (fun p e R s m args below meth c H locs cells slots ls Qf hA hR hL k => by
    obtain ⟨hx, hb, hml, -, -, -, hown, hKK, hts, hh, hal, -⟩ := hA
    obtain ⟨cf, kf, fi, fd, a, cell, h1, h2, h3, h4, h5, h6, h7, h8⟩ := (hZ.moved hal.1).kept hR.oq
    exact W.gets hx hb hown (hts _ hw) h1 h2 h3 h4 h5 (fun e => by rw [e] at h6; cases h6) h7 rfl hd k) h
theorem wm_callO {idx k : Nat} {st0 : List mV} (hO : va_O y2.1.cls t (mOwn G) (gS G) (gS G).heap) (h1 : Cond.methodLink y.1.cls idx y2.1 ∈ lw_R) (h2 : Cond.instanceMethod y2.1 ∈ lw_R) (h3 : Cond.selects y2.1.cls y2.1 y2.1 ∈ lw_R) (h4 : Cond.initialized y2.1.cls ∈ lw_R) (h5 : yC y2 ∈ lw_R) (hd2 : y2.1.cls ≠ "java/lang/invoke/MethodHandle" ∧ y2.1.cls ≠ "java/lang/invoke/VarHandle" ∧ (parseMethodDescriptor y2.1.desc).map (fun d => d.parameters.length) = some k) (hnL : y2.2.2.1 ≤ 45) (hn : As.length = k) (hst : st0 = As.reverse ++ vo t :: st) (hW : (st.map mcat).sum ≤ 8) (hd : decode y.2.1 pc = .ok (.invokevirtual idx, 3))
    (h : mCm G y2 d (vo t :: As) M (fun r M1 => mWm G y (d + 1) (pc + 3) L (r.toList ++ st) M1 Q)) : mWm G y (d + 1) pc L st0 M Q :=
  wm_run (a0 := (Value.ref t :: As.map mcv).toArray) (fun r M1 hC p e R s m args below meth c9 H locs cells slots ls hA hR hL hf => by
    subst hst
    obtain ⟨hx, hb, hml, -, -, -, hown, hKK, hts, hh, hal, hfr, hlo⟩ := hA
    obtain ⟨cell, q1, q2, q3, q4⟩ := (hO.moved hal.1).kept hR.oq
    have hbv : mcv (vo t) = .ref t := rfl
    have hM := hC.2
    rw [List.map_cons, hbv] at hM
    refine va_runV ⟨hx, hb, hml, hown, hts⟩ hM (C := y2.1.cls) (n := k) ⟨callB_of k hts (zGood h5 rfl) rfl rfl rfl (hts _ h4) (hts _ h1) hd2 (m_room hfr hlo hnL), hts _ h2, hts _ h3⟩ ⟨mPre_blind, ⟨cell, q1, q2, q3⟩, fun U hU hW9 => ⟨rfl, mPre_at hKK hh hal hR hU hW9⟩⟩ rfl (by rw [List.length_map]; exact hn) hL.1 ?_ (by rw [m_cats]; show 2 * 0 + _ ≤ 8; omega) hd hf
    show (As.reverse ++ vo t :: st).map mcv = _
    rw [List.map_append, List.map_cons, hbv, List.map_reverse]) h
theorem wm_callOi {idx k : Nat} {st0 : List mV} (hO : va_O y2.1.cls t (mOwn G) (gS G) (gS G).heap) (h1 : Cond.methodLink y.1.cls idx y2.1 ∈ lw_R) (h2 : Cond.instanceMethod y2.1 ∈ lw_R) (h3 : Cond.selects y2.1.cls y2.1 y2.1 ∈ lw_R) (h4 : Cond.initialized y2.1.cls ∈ lw_R) (h5 : yC y2 ∈ lw_R) (hd2 : y2.1.cls ≠ "java/lang/invoke/MethodHandle" ∧ y2.1.cls ≠ "java/lang/invoke/VarHandle" ∧ (parseMethodDescriptor y2.1.desc).map (fun d => d.parameters.length) = some k) (hnL : y2.2.2.1 ≤ 45) (hn : As.length = k) (hst : st0 = As.reverse ++ vo t :: st) (hW : (st.map mcat).sum ≤ 8) (hd : decode y.2.1 pc = .ok (.invokevirtual idx, 3))
    (h : Ci G y2 d (vo t :: As) M (fun x M1 => mWm G y (d + 1) (pc + 3) L (vi x :: st) M1 Q)) : mWm G y (d + 1) pc L st0 M Q :=
  wm_callO hO h1 h2 h3 h4 h5 hd2 hnL hn hst hW hd (mCm.mono h (fun r9 M9 q9 => by obtain ⟨x9, e9, q9⟩ := q9; subst e9; exact q9))
theorem wm_callSi {idx k : Nat} {st0 : List mV} (h1 : Cond.methodLink y.1.cls idx y2.1 ∈ lw_R) (h2 : Cond.static y2.1 ∈ lw_R) (h4 : Cond.initialized y2.1.cls ∈ lw_R) (h5 : yC y2 ∈ lw_R) (hd2 : y2.1.cls ≠ "java/lang/invoke/MethodHandle" ∧ y2.1.cls ≠ "java/lang/invoke/VarHandle" ∧ (parseMethodDescriptor y2.1.desc).map (fun d => d.parameters.length) = some k) (hnL : y2.2.2.1 ≤ 45) (hn : As.length = k) (hst : st0 = As.reverse ++ st) (hW : (st.map mcat).sum ≤ 8) (hd : decode y.2.1 pc = .ok (.invokestatic idx, 3))
    (h : Ci G y2 d As M (fun x M1 => mWm G y (d + 1) (pc + 3) L (vi x :: st) M1 Q)) : mWm G y (d + 1) pc L st0 M Q :=
  wm_callS h1 h2 h4 h5 hd2 hnL hn hst hW hd (mCm.mono h (fun r9 M9 q9 => by obtain ⟨x9, e9, q9⟩ := q9; subst e9; exact q9))
theorem wm_callSv {idx k : Nat} {st0 : List mV} (h1 : Cond.methodLink y.1.cls idx y2.1 ∈ lw_R) (h2 : Cond.static y2.1 ∈ lw_R) (h4 : Cond.initialized y2.1.cls ∈ lw_R) (h5 : yC y2 ∈ lw_R) (hd2 : y2.1.cls ≠ "java/lang/invoke/MethodHandle" ∧ y2.1.cls ≠ "java/lang/invoke/VarHandle" ∧ (parseMethodDescriptor y2.1.desc).map (fun d => d.parameters.length) = some k) (hnL : y2.2.2.1 ≤ 45) (hn : As.length = k) (hst : st0 = As.reverse ++ st) (hW : (st.map mcat).sum ≤ 8) (hd : decode y.2.1 pc = .ok (.invokestatic idx, 3))
    (h : Cv G y2 d As M (fun M1 => mWm G y (d + 1) (pc + 3) L st M1 Q)) : mWm G y (d + 1) pc L st0 M Q :=
  wm_callS h1 h2 h4 h5 hd2 hnL hn hst hW hd (mCm.mono h (fun r9 M9 q9 => by obtain ⟨e9, q9⟩ := q9; subst e9; exact q9))
theorem s_JP_checkIndex {i k : Int} (ii : i32 i) (ik : i32 k) (h : 0 ≤ i ∧ i < k) : Ci G y_JP_checkIndex d [vi i, vi k, vr 0] M (fun r M' => M' = M) ∧ ∀ q : Nat, Ci G y_JP_checkIndex d [vi i, vi k, vo q] M (fun r M' => M' = M) := by
  constructor
  · refine wm_open (y := y_JP_checkIndex) rfl (Nat.le_of_ble_eq_true rfl) (L := [vi i, vi k, vr 0]) rfl ?_
    refine wm_iload_n d_JP_checkIndex_0 rfl rfl ?_
    refine wm_if_lt (tgt := 9) d_JP_checkIndex_1 rfl ii (fun c => by omega) (fun _ => ?_)
    refine wm_iload_n d_JP_checkIndex_4 rfl rfl ?_
    refine wm_iload_n d_JP_checkIndex_5 rfl rfl ?_
    refine wm_icmp_lt (tgt := 16) d_JP_checkIndex_6 rfl ii ik (fun _ => ?_) (fun c => by omega)
    refine wm_iload_n d_JP_checkIndex_16 rfl rfl ?_
    refine wm_ireturn d_JP_checkIndex_17 rfl rfl ?_
    exact ⟨_, rfl, rfl⟩
  · intro q
    refine wm_open (y := y_JP_checkIndex) rfl (Nat.le_of_ble_eq_true rfl) (L := [vi i, vi k, vo q]) rfl ?_
    refine wm_iload_n d_JP_checkIndex_0 rfl rfl ?_
    refine wm_if_lt (tgt := 9) d_JP_checkIndex_1 rfl ii (fun c => by omega) (fun _ => ?_)
    refine wm_iload_n d_JP_checkIndex_4 rfl rfl ?_
    refine wm_iload_n d_JP_checkIndex_5 rfl rfl ?_
    refine wm_icmp_lt (tgt := 16) d_JP_checkIndex_6 rfl ii ik (fun _ => ?_) (fun c => by omega)
    refine wm_iload_n d_JP_checkIndex_16 rfl rfl ?_
    refine wm_ireturn d_JP_checkIndex_17 rfl rfl ?_
    exact ⟨_, rfl, rfl⟩
theorem s_JS_checkIndex {i k : Int} (hJ : JD G) (ii : i32 i) (ik : i32 k) (h : 0 ≤ i ∧ i < k) : Cv G y_JS_checkIndex (d + 1) [vi i, vi k] M (fun M' => M' = M) := by
  rcases hJ.2 with hz | ⟨q, hz⟩
  · refine wm_open (y := y_JS_checkIndex) rfl (Nat.le_of_ble_eq_true rfl) (L := [vi i, vi k]) rfl ?_
    refine wm_iload_n d_JS_checkIndex_0 rfl rfl ?_
    refine wm_iload_n d_JS_checkIndex_1 rfl rfl ?_
    refine wm_getsO (v := vr 0) kt_fmt hz d_JS_checkIndex_2 ?_
    refine wm_callSi (y2 := y_JP_checkIndex) (k := 3) (As := [vi i, vi k, vr 0]) kt_preL kt_preS kt_iP kt_preC ⟨by decide, by decide, by decide +kernel⟩ (by decide) rfl rfl (Nat.le_of_ble_eq_true rfl) d_JS_checkIndex_5 ?_
    refine ((s_JP_checkIndex (d := d) ii ik h).1).mono (fun x M' q' => ?_)
    subst q'
    refine wm_pop (v := vi x) d_JS_checkIndex_8 rfl ?_
    refine wm_return d_JS_checkIndex_9 rfl ?_
    exact ⟨rfl, rfl⟩
  · refine wm_open (y := y_JS_checkIndex) rfl (Nat.le_of_ble_eq_true rfl) (L := [vi i, vi k]) rfl ?_
    refine wm_iload_n d_JS_checkIndex_0 rfl rfl ?_
    refine wm_iload_n d_JS_checkIndex_1 rfl rfl ?_
    refine wm_getsO (v := vo q) kt_fmt hz d_JS_checkIndex_2 ?_
    refine wm_callSi (y2 := y_JP_checkIndex) (k := 3) (As := [vi i, vi k, vo q]) kt_preL kt_preS kt_iP kt_preC ⟨by decide, by decide, by decide +kernel⟩ (by decide) rfl rfl (Nat.le_of_ble_eq_true rfl) d_JS_checkIndex_5 ?_
    refine ((s_JP_checkIndex (d := d) ii ik h).2 q).mono (fun x M' q' => ?_)
    subst q'
    refine wm_pop (v := vi x) d_JS_checkIndex_8 rfl ?_
    refine wm_return d_JS_checkIndex_9 rfl ?_
    exact ⟨rfl, rfl⟩
theorem s_JS_coder (hJ : JD G) (hs : Str G t n f) : Ci G y_JS_coder d [vo t] M (fun r M' => r = 0 ∧ M' = M) := by
  refine wm_open (y := y_JS_coder) rfl (Nat.le_of_ble_eq_true rfl) (L := [vo t]) rfl ?_
  refine wm_getsO (v := vi 1) kt_cmp hJ.1 d_JS_coder_0 ?_
  refine wm_if_eq (tgt := 13) d_JS_coder_3 rfl ⟨by decide, by decide⟩ (fun c => by omega) (fun _ => ?_)
  refine wm_aldO_n d_JS_coder_6 rfl rfl ?_
  refine wm_getfO (v := vi 0) kt_cod hs.2.1 d_JS_coder_7 ?_
  refine wm_goto (tgt := 14) d_JS_coder_10 rfl ?_
  refine wm_ireturn d_JS_coder_14 rfl rfl ?_
  exact ⟨_, rfl, rfl, rfl⟩
theorem s_JS_isLatin1 (hJ : JD G) (hs : Str G t n f) : Ci G y_JS_isLatin1 d [vo t] M (fun r M' => r = 1 ∧ M' = M) := by
  refine wm_open (y := y_JS_isLatin1) rfl (Nat.le_of_ble_eq_true rfl) (L := [vo t]) rfl ?_
  refine wm_getsO (v := vi 1) kt_cmp hJ.1 d_JS_isLatin1_0 ?_
  refine wm_if_eq (tgt := 17) d_JS_isLatin1_3 rfl ⟨by decide, by decide⟩ (fun c => by omega) (fun _ => ?_)
  refine wm_aldO_n d_JS_isLatin1_6 rfl rfl ?_
  refine wm_getfO (v := vi 0) kt_cod hs.2.1 d_JS_isLatin1_7 ?_
  refine wm_if_ne (tgt := 17) d_JS_isLatin1_10 rfl ⟨by decide, by decide⟩ (fun c => absurd rfl c) (fun _ => ?_)
  refine wm_iconst d_JS_isLatin1_13 ?_
  refine wm_goto (tgt := 18) d_JS_isLatin1_14 rfl ?_
  refine wm_ireturn d_JS_isLatin1_18 rfl rfl ?_
  exact ⟨_, rfl, rfl, rfl⟩
theorem shrI0 {n : Nat} (h : n < 100) : shrI (n : Int) 0 = n := by
  have : ∀ k : Fin 100, shrI ((k.val : Nat) : Int) 0 = ((k.val : Nat) : Int) := by decide +kernel
  exact this ⟨n, h⟩
theorem s_JS_length (hJ : JD G) (hs : Str G t n f) : Ci G y_JS_length (d + 1) [vo t] M (fun r M' => r = n ∧ M' = M) := by
  obtain ⟨A, hv, hT⟩ := hs.2.2
  refine wm_open (y := y_JS_length) rfl (Nat.le_of_ble_eq_true rfl) (L := [vo t]) rfl ?_
  refine wm_aldO_n d_JS_length_0 rfl rfl ?_
  refine wm_getfO (v := vo A) kt_val hv d_JS_length_1 ?_
  refine wm_alenO hT d_JS_length_4 ?_
  refine wm_aldO_n d_JS_length_5 rfl rfl ?_
  refine wm_callOi (y2 := y_JS_coder) (k := 0) (As := []) hs.1 kt_codL kt_codI kt_codS kt_iS kt_codC ⟨by decide, by decide, by decide +kernel⟩ (by decide) rfl rfl (Nat.le_of_ble_eq_true rfl) d_JS_length_6 ?_
  refine (s_JS_coder (d := d) hJ hs).mono (fun x M' q' => ?_)
  obtain ⟨rfl, rfl⟩ := q'
  refine wm_ishr d_JS_length_9 ?_
  rw [shrI0 hT.2.1]
  refine wm_ireturn d_JS_length_10 rfl rfl ?_
  exact ⟨_, rfl, rfl, rfl⟩
theorem andc {x : Int} (h : 0 ≤ x ∧ x < 128) : i2cI (andI x 255) = x := by
  have : ∀ k : Fin 128, i2cI (andI ((k.val : Nat) : Int) 255) = ((k.val : Nat) : Int) := by decide +kernel
  have e := this ⟨x.toNat, by omega⟩
  have ex : ((x.toNat : Nat) : Int) = x := by omega
  rw [show ((⟨x.toNat, by omega⟩ : Fin 128).val : Int) = x from ex] at e
  exact e
theorem s_JT_charAt {i : Nat} (hJ : JD G) (hT : BA G A n f) (hi : i < n) : Ci G y_JT_charAt (d + 2) [vo A, vi i] M (fun r M' => r = f i ∧ M' = M) := by
  have hn := hT.2.1
  have ii : i32 (i : Int) := ⟨by omega, by omega⟩
  have hf := hT.2.2 i hi
  refine wm_open (y := y_JT_charAt) rfl (Nat.le_of_ble_eq_true rfl) (L := [vo A, vi i]) rfl ?_
  refine wm_iload_n d_JT_charAt_0 rfl rfl ?_
  refine wm_aldO_n d_JT_charAt_1 rfl rfl ?_
  refine wm_alenO hT d_JT_charAt_2 ?_
  refine wm_callSv (y2 := y_JS_checkIndex) (k := 2) (As := [vi i, vi n]) kt_chkL kt_chkS kt_iS kt_chkC ⟨by decide, by decide, by decide +kernel⟩ (by decide) rfl rfl (Nat.le_of_ble_eq_true rfl) d_JT_charAt_3 ?_
  refine (s_JS_checkIndex (d := d) hJ ii ⟨by omega, by omega⟩ ⟨by omega, by omega⟩).mono (fun M' q' => ?_)
  subst q'
  refine wm_aldO_n d_JT_charAt_6 rfl rfl ?_
  refine wm_iload_n d_JT_charAt_7 rfl rfl ?_
  refine wm_baldO hT ⟨by omega, by omega⟩ d_JT_charAt_8 ?_
  refine wm_sipush d_JT_charAt_9 (by decide) ?_
  refine wm_iand d_JT_charAt_12 ?_
  refine wm_i2c d_JT_charAt_13 ?_
  rw [Int.toNat_natCast, andc hf]
  refine wm_ireturn d_JT_charAt_14 rfl (m_char ⟨by omega, by omega⟩) ?_
  exact ⟨_, rfl, rfl, rfl⟩
theorem s_JS_charAt {i : Nat} (hJ : JD G) (hs : Str G t n f) (hi : i < n) : Ci G y_JS_charAt (d + 3) [vo t, vi i] M (fun r M' => r = f i ∧ M' = M) := by
  obtain ⟨A, hv, hT⟩ := hs.2.2
  have hf := hT.2.2 i hi
  refine wm_open (y := y_JS_charAt) rfl (Nat.le_of_ble_eq_true rfl) (L := [vo t, vi i]) rfl ?_
  refine wm_aldO_n d_JS_charAt_0 rfl rfl ?_
  refine wm_callOi (y2 := y_JS_isLatin1) (k := 0) (As := []) hs.1 kt_latL kt_latI kt_latS kt_iS kt_latC ⟨by decide, by decide, by decide +kernel⟩ (by decide) rfl rfl (Nat.le_of_ble_eq_true rfl) d_JS_charAt_1 ?_
  refine (s_JS_isLatin1 (d := d + 2) hJ hs).mono (fun x M' q' => ?_)
  obtain ⟨rfl, rfl⟩ := q'
  refine wm_if_eq (tgt := 16) d_JS_charAt_4 rfl ⟨by decide, by decide⟩ (fun c => by omega) (fun _ => ?_)
  refine wm_aldO_n d_JS_charAt_7 rfl rfl ?_
  refine wm_getfO (v := vo A) kt_val hv d_JS_charAt_8 ?_
  refine wm_iload_n d_JS_charAt_11 rfl rfl ?_
  refine wm_callSi (y2 := y_JT_charAt) (k := 2) (As := [vo A, vi i]) kt_ltcL kt_ltcS kt_iT kt_ltcC ⟨by decide, by decide, by decide +kernel⟩ (by decide) rfl rfl (Nat.le_of_ble_eq_true rfl) d_JS_charAt_12 ?_
  refine (s_JT_charAt (d := d) hJ hT hi).mono (fun x M' q' => ?_)
  obtain ⟨rfl, rfl⟩ := q'
  refine wm_ireturn d_JS_charAt_15 rfl (m_char ⟨by omega, by omega⟩) ?_
  exact ⟨_, rfl, rfl, rfl⟩
/-- the two calls that the program makes -/
theorem wm_strLen {idx : Nat} (hJ : JD G) (hs : Str G t n f) (hw : Cond.methodLink y.1.cls idx y_JS_length.1 ∈ lw_R) (hW : (st.map mcat).sum ≤ 8) (hd : decode y.2.1 pc = .ok (.invokevirtual idx, 3)) (h : mWm G y (d + 2) (pc + 3) L (vi n :: st) M Q) : mWm G y (d + 2) pc L (vo t :: st) M Q := by
  refine wm_callOi (y2 := y_JS_length) (k := 0) (As := []) hs.1 hw kt_lenI kt_lenS kt_iS kt_lenC ⟨by decide, by decide, by decide +kernel⟩ (by decide) rfl rfl hW hd ?_
  refine (s_JS_length (d := d) hJ hs).mono (fun x M' q' => ?_)
  obtain ⟨rfl, rfl⟩ := q'
  exact h
theorem wm_strAt {idx i : Nat} (hJ : JD G) (hs : Str G t n f) (hi : i < n) (hw : Cond.methodLink y.1.cls idx y_JS_charAt.1 ∈ lw_R) (hW : (st.map mcat).sum ≤ 8) (hd : decode y.2.1 pc = .ok (.invokevirtual idx, 3)) (h : mWm G y (d + 4) (pc + 3) L (vi (f i) :: st) M Q) : mWm G y (d + 4) pc L (vi i :: vo t :: st) M Q := by
  refine wm_callOi (y2 := y_JS_charAt) (k := 1) (As := [vi i]) hs.1 hw kt_chaI kt_chaS kt_iS kt_chaC ⟨by decide, by decide, by decide +kernel⟩ (by decide) rfl rfl hW hd ?_
  refine (s_JS_charAt (d := d) hJ hs hi).mono (fun x M' q' => ?_)
  obtain ⟨rfl, rfl⟩ := q'
  exact h
end STR
end
section
/-! What the law's start says of the string constants and of the JDK's own fields. -/
/-- a string constant of a class -/
def Lit (G : mG) (own : String) (k : Nat) (tx : String) (l : List Int) : Prop := ∃ t : Nat, vk_R own k tx t (gS G) ∧ Str G t l.length (fun j => l.getD j 0)
section LIT
variable {G : mG} {args : Array Value}
theorem Lit.of {own tx : String} {k n : Nat} {f : List Int} (hB : gB G = (gS G).heap.size) (hn : n < 100) (hf : ∀ j, j < n → 0 ≤ f.getD j 0 ∧ f.getD j 0 < 128) (hr : (Cond.stringRef own k tx).before args (gS G) = true) (hex : (Cond.exactly (.string own k) "java/lang/String").before args (gS G) = true) (hco : (Cond.eq (.field (.string own k) "java/lang/String" "coder" "B") (.int 0)).before args (gS G) = true)
    (har : (Cond.arrayOf (.field (.string own k) "java/lang/String" "value" "[B") .byte).before args (gS G) = true) (hle : (Cond.eq (.length (.field (.string own k) "java/lang/String" "value" "[B")) (.int (Int32.ofNat n))).before args (gS G) = true)
    (hel : ∀ j : Nat, j < n → (Cond.eq (.elem (.field (.string own k) "java/lang/String" "value" "[B") (.int (Int32.ofNat j))) (.int (Int32.ofInt (f.getD j 0)))).before args (gS G) = true) : ∃ t : Nat, vk_R own k tx t (gS G) ∧ Str G t n (fun j => f.getD j 0) := by
  have hA : ∀ a : Nat, a < (gS G).heap.size → ¬ mOwn G a := fun a ha h => by
    have h : gB G ≤ a := h
    omega
  obtain ⟨a, c, cA, kA, q1, q2, q3, q4, q5, q6, -⟩ := Cond.exactly_spec (args := args) (first := gS G) (o := none) (s := gS G) (idx := []) (t := .string own k) (cls := "java/lang/String") hex
  obtain ⟨t, ht, hT⟩ := va_Tof (f := fun j => .int (Int32.ofInt (f.getD j 0))) (A := mOwn G) (by omega) har (va_eqt hle) (fun j hj => va_eqt (hel j hj)) hA
  exact ⟨a, vk_R.of hr q1, ⟨cA, q3, q5, by rw [q6]; exact q2, hA a (Array.getElem?_eq_some_iff.mp q3).1⟩, vk_OFof q1 (va_eqt hco) hA, t, vk_OFof q1 ht hA, hT, hn, hf⟩
theorem JD.of (hB : gB G = (gS G).heap.size) (h1 : (Cond.laysStatic "java/lang/String" "COMPACT_STRINGS" "Z").before args (gS G) = true) (h2 : (Cond.initialized "java/lang/String").before args (gS G) = true) (h3 : (Cond.eq (.static "java/lang/String" "COMPACT_STRINGS" "Z") (.int 1)).before args (gS G) = true) (g1 : (Cond.laysStatic "jdk/internal/util/Preconditions" "SIOOBE_FORMATTER" "Ljava/util/function/BiFunction;").before args (gS G) = true) (g2 : (Cond.initialized "jdk/internal/util/Preconditions").before args (gS G) = true) (g3 : (Cond.isRef (.static "jdk/internal/util/Preconditions" "SIOOBE_FORMATTER" "Ljava/util/function/BiFunction;")).before args (gS G) = true) : JD G := by
  have hA : ∀ a : Nat, a < (gS G).heap.size → ¬ mOwn G a := fun a ha h => by
    have h : gB G ≤ a := h
    omega
  exact ⟨va_Zof h1 h2 (va_eqt h3) hA, va_Zqof g1 g2 g3 hA⟩
end LIT
end
section
/-! Steps that change nothing but the place and the stack, whatever the run comes to: for methods that throw, and for methods that only read. -/
def mGo (G : mG) (y : mY) (d : Nat) (L : List mV) (M : mM) (pc : Nat) (st : List mV) (pc' : Nat) (st' : List mV) : Prop := ∀ (p : Program) (e : Env) (R : Room) (s : State) (m : MethodId) (args : Array Value) (below : List Frame) (meth : Method) (c : Code) (H : Heap) (locs : List Loc) (cells slots : Nat) (ls : Array Slot) (Qf : State → Prop), mAt G y d p R s m args meth c → mRep G M H → mLs ls y.2.2.1 L → cells ≤ R.cells → slots ≤ R.slots → W p (gL G) e R s m args below meth c H locs cells slots Qf (F0 m pc' ls (st'.map mcv)) → W p (gL G) e R s m args below meth c H locs cells slots Qf (F0 m pc ls (st.map mcv))
section GO
variable {G : mG} {y : mY} {d pc pc9 : Nat} {L st st9 : List mV} {M : mM}
theorem mGo.refl : mGo G y d L M pc st pc st := fun p e R s m args below meth c H locs cells slots ls Qf hA hR hL c1 c2 k => k
theorem go_st {pc' : Nat} {st' : List mV} (hs : ∀ (p : Program) (e : Env) (R : Room) (s : State) (m : MethodId) (args : Array Value) (below : List Frame) (meth : Method) (c : Code) (H : Heap) (locs : List Loc) (cells slots : Nat) (ls : Array Slot) (Qf : State → Prop), mAt G y d p R s m args meth c → mRep G M H → mLs ls y.2.2.1 L → W p (gL G) e R s m args below meth c H locs cells slots Qf (F0 m pc' ls (st'.map mcv)) → W p (gL G) e R s m args below meth c H locs cells slots Qf (F0 m pc ls (st.map mcv))) (h : mGo G y d L M pc' st' pc9 st9) : mGo G y d L M pc st pc9 st9 := fun p e R s m args below meth c H locs cells slots ls Qf hA hR hL c1 c2 k => hs p e R s m args below meth c H locs cells slots ls Qf hA hR hL (h p e R s m args below meth c H locs cells slots ls Qf hA hR hL c1 c2 k)
theorem go_iconst {n : Int} (hd : decode y.2.1 pc = .ok (.iconst n, 1)) (h : mGo G y d L M (pc + 1) (vi n :: st) pc9 st9) : mGo G y d L M pc st pc9 st9 := go_st (fun p e R s m args below meth c H locs cells slots ls Qf hA hR hL k => lv_iconst hA.1 hA.2.1 hd rfl k) h
theorem go_bipush {n : Int} (hd : decode y.2.1 pc = .ok (.bipush n, 2)) (hv : (Int8.ofInt n).toInt32 = Int32.ofInt n) (h : mGo G y d L M (pc + 2) (vi n :: st) pc9 st9) : mGo G y d L M pc st pc9 st9 := go_st (fun p e R s m args below meth c H locs cells slots ls Qf hA hR hL k => lv_bipush hA.1 hA.2.1 hd hv k) h
theorem go_iload_n {k0 : Fin 4} {i : Nat} {x : Int} (hd : decode y.2.1 pc = .ok (.iload_n k0, 1)) (hi : (k0 : Nat) = i) (hv : L[i]? = some (vi x)) (h : mGo G y d L M (pc + 1) (vi x :: st) pc9 st9) : mGo G y d L M pc st pc9 st9 := go_st (fun p e R s m args below meth c H locs cells slots ls Qf hA hR hL k => lv_iload_n hA.1 hA.2.1 hd hi (hL.at hv rfl) k) h
theorem go_aload_n {k0 : Fin 4} {i : Nat} {x : Nat} (hd : decode y.2.1 pc = .ok (.aload_n k0, 1)) (hi : (k0 : Nat) = i) (hv : L[i]? = some (vr x)) (h : mGo G y d L M (pc + 1) (vr x :: st) pc9 st9) : mGo G y d L M pc st pc9 st9 := by
  by_cases h0 : x = 0
  · subst h0
    exact go_st (fun p e R s m args below meth c H locs cells slots ls Qf hA hR hL k => lv_aload_nN hA.1 hA.2.1 hd hi (hL.at hv rfl) k) h
  · have e9 : mcv (vr x) = .ref x := if_neg h0
    exact go_st (fun p e R s m args below meth c H locs cells slots ls Qf hA hR hL k => by
      have k' : W p (gL G) e R s m args below meth c H locs cells slots Qf (F0 m (pc + 1) ls (.ref x :: st.map mcv)) := by rw [← e9]; exact k
      exact lv_aload_n hA.1 hA.2.1 hd hi (by rw [← e9]; exact hL.at hv rfl) k') h
theorem go_iadd {x z : Int} (hd : decode y.2.1 pc = .ok (.iadd, 1)) (h : mGo G y d L M (pc + 1) (vi (x + z) :: st) pc9 st9) : mGo G y d L M pc (vi z :: vi x :: st) pc9 st9 :=
  go_st (fun p e R s m args below meth c H locs cells slots ls Qf hA hR hL k => by
    have k' : W p (gL G) e R s m args below meth c H locs cells slots Qf (F0 m (pc + 1) ls (.int (Int32.ofInt (x + z)) :: st.map mcv)) := k
    rw [Int32.ofInt_add] at k'
    exact lv_iadd hA.1 hA.2.1 hd k') h
theorem go_isub {x z : Int} (hd : decode y.2.1 pc = .ok (.isub, 1)) (h : mGo G y d L M (pc + 1) (vi (x - z) :: st) pc9 st9) : mGo G y d L M pc (vi z :: vi x :: st) pc9 st9 :=
  go_st (fun p e R s m args below meth c H locs cells slots ls Qf hA hR hL k => by
    have k' : W p (gL G) e R s m args below meth c H locs cells slots Qf (F0 m (pc + 1) ls (.int (Int32.ofInt (x - z)) :: st.map mcv)) := k
    rw [Int32.ofInt_sub] at k'
    exact lv_isub hA.1 hA.2.1 hd k') h
theorem go_if_eq {x : Int} {off : Int} {tgt : Nat} (hd : decode y.2.1 pc = .ok (.ifCond .eq off, 3)) (ht : (pc : Int) + off = (tgt : Int)) (hx : i32 x) (kt : x = 0 → mGo G y d L M tgt st pc9 st9) (kf : ¬ (x = 0) → mGo G y d L M (pc + 3) st pc9 st9) : mGo G y d L M pc (vi x :: st) pc9 st9 := by
  by_cases hc : x = 0
  · exact go_st (fun p e R s m args below meth c H locs cells slots ls Qf hA hR hL k => lv_if_eq hA.1 hA.2.1 hd ht (fun _ => k) (fun q => absurd ((i32_eq0 hx).mpr hc) q)) (kt hc)
  · exact go_st (fun p e R s m args below meth c H locs cells slots ls Qf hA hR hL k => lv_if_eq hA.1 hA.2.1 hd ht (fun q => absurd ((i32_eq0 hx).mp q) hc) (fun _ => k)) (kf hc)
theorem go_if_ne {x : Int} {off : Int} {tgt : Nat} (hd : decode y.2.1 pc = .ok (.ifCond .ne off, 3)) (ht : (pc : Int) + off = (tgt : Int)) (hx : i32 x) (kt : ¬ x = 0 → mGo G y d L M tgt st pc9 st9) (kf : ¬ (¬ x = 0) → mGo G y d L M (pc + 3) st pc9 st9) : mGo G y d L M pc (vi x :: st) pc9 st9 := by
  by_cases hc : ¬ x = 0
  · exact go_st (fun p e R s m args below meth c H locs cells slots ls Qf hA hR hL k => lv_if_ne hA.1 hA.2.1 hd ht (fun _ => k) (fun q => absurd ((i32_eq0 hx).mp q) hc)) (kt hc)
  · exact go_st (fun p e R s m args below meth c H locs cells slots ls Qf hA hR hL k => lv_if_ne hA.1 hA.2.1 hd ht (fun q => absurd ((i32_eq0 hx).mpr (Classical.not_not.mp hc)) q) (fun _ => k)) (kf hc)
theorem go_if_lt {x : Int} {off : Int} {tgt : Nat} (hd : decode y.2.1 pc = .ok (.ifCond .lt off, 3)) (ht : (pc : Int) + off = (tgt : Int)) (hx : i32 x) (kt : x < 0 → mGo G y d L M tgt st pc9 st9) (kf : ¬ (x < 0) → mGo G y d L M (pc + 3) st pc9 st9) : mGo G y d L M pc (vi x :: st) pc9 st9 := by
  by_cases hc : x < 0
  · exact go_st (fun p e R s m args below meth c H locs cells slots ls Qf hA hR hL k => lv_if_lt hA.1 hA.2.1 hd ht (fun _ => k) (fun q => absurd ((i32_lt0 hx).mpr hc) q)) (kt hc)
  · exact go_st (fun p e R s m args below meth c H locs cells slots ls Qf hA hR hL k => lv_if_lt hA.1 hA.2.1 hd ht (fun q => absurd ((i32_lt0 hx).mp q) hc) (fun _ => k)) (kf hc)
theorem go_icmp_eq {x z : Int} {off : Int} {tgt : Nat} (hd : decode y.2.1 pc = .ok (.if_icmp .eq off, 3)) (ht : (pc : Int) + off = (tgt : Int)) (hx : i32 x) (hz : i32 z) (kt : x = z → mGo G y d L M tgt st pc9 st9) (kf : ¬ (x = z) → mGo G y d L M (pc + 3) st pc9 st9) : mGo G y d L M pc (vi z :: vi x :: st) pc9 st9 := by
  by_cases hc : x = z
  · exact go_st (fun p e R s m args below meth c H locs cells slots ls Qf hA hR hL k => lv_icmp_eq hA.1 hA.2.1 hd ht (fun _ => k) (fun q => absurd ((i32_eq hx hz).mpr hc) q)) (kt hc)
  · exact go_st (fun p e R s m args below meth c H locs cells slots ls Qf hA hR hL k => lv_icmp_eq hA.1 hA.2.1 hd ht (fun q => absurd ((i32_eq hx hz).mp q) hc) (fun _ => k)) (kf hc)
theorem go_icmp_ne {x z : Int} {off : Int} {tgt : Nat} (hd : decode y.2.1 pc = .ok (.if_icmp .ne off, 3)) (ht : (pc : Int) + off = (tgt : Int)) (hx : i32 x) (hz : i32 z) (kt : ¬ x = z → mGo G y d L M tgt st pc9 st9) (kf : ¬ (¬ x = z) → mGo G y d L M (pc + 3) st pc9 st9) : mGo G y d L M pc (vi z :: vi x :: st) pc9 st9 := by
  by_cases hc : ¬ x = z
  · exact go_st (fun p e R s m args below meth c H locs cells slots ls Qf hA hR hL k => lv_icmp_ne hA.1 hA.2.1 hd ht (fun _ => k) (fun q => absurd ((i32_eq hx hz).mp q) hc)) (kt hc)
  · exact go_st (fun p e R s m args below meth c H locs cells slots ls Qf hA hR hL k => lv_icmp_ne hA.1 hA.2.1 hd ht (fun q => absurd ((i32_eq hx hz).mpr (Classical.not_not.mp hc)) q) (fun _ => k)) (kf hc)
theorem go_icmp_lt {x z : Int} {off : Int} {tgt : Nat} (hd : decode y.2.1 pc = .ok (.if_icmp .lt off, 3)) (ht : (pc : Int) + off = (tgt : Int)) (hx : i32 x) (hz : i32 z) (kt : x < z → mGo G y d L M tgt st pc9 st9) (kf : ¬ (x < z) → mGo G y d L M (pc + 3) st pc9 st9) : mGo G y d L M pc (vi z :: vi x :: st) pc9 st9 := by
  by_cases hc : x < z
  · exact go_st (fun p e R s m args below meth c H locs cells slots ls Qf hA hR hL k => lv_icmp_lt hA.1 hA.2.1 hd ht (fun _ => k) (fun q => absurd ((i32_lt hx hz).mpr hc) q)) (kt hc)
  · exact go_st (fun p e R s m args below meth c H locs cells slots ls Qf hA hR hL k => lv_icmp_lt hA.1 hA.2.1 hd ht (fun q => absurd ((i32_lt hx hz).mp q) hc) (fun _ => k)) (kf hc)
theorem go_icmp_ge {x z : Int} {off : Int} {tgt : Nat} (hd : decode y.2.1 pc = .ok (.if_icmp .ge off, 3)) (ht : (pc : Int) + off = (tgt : Int)) (hx : i32 x) (hz : i32 z) (kt : z ≤ x → mGo G y d L M tgt st pc9 st9) (kf : ¬ (z ≤ x) → mGo G y d L M (pc + 3) st pc9 st9) : mGo G y d L M pc (vi z :: vi x :: st) pc9 st9 := by
  by_cases hc : z ≤ x
  · exact go_st (fun p e R s m args below meth c H locs cells slots ls Qf hA hR hL k => lv_icmp_ge hA.1 hA.2.1 hd ht (fun _ => k) (fun q => absurd ((i32_le hz hx).mpr hc) q)) (kt hc)
  · exact go_st (fun p e R s m args below meth c H locs cells slots ls Qf hA hR hL k => lv_icmp_ge hA.1 hA.2.1 hd ht (fun q => absurd ((i32_le hz hx).mp q) hc) (fun _ => k)) (kf hc)
theorem go_icmp_gt {x z : Int} {off : Int} {tgt : Nat} (hd : decode y.2.1 pc = .ok (.if_icmp .gt off, 3)) (ht : (pc : Int) + off = (tgt : Int)) (hx : i32 x) (hz : i32 z) (kt : z < x → mGo G y d L M tgt st pc9 st9) (kf : ¬ (z < x) → mGo G y d L M (pc + 3) st pc9 st9) : mGo G y d L M pc (vi z :: vi x :: st) pc9 st9 := by
  by_cases hc : z < x
  · exact go_st (fun p e R s m args below meth c H locs cells slots ls Qf hA hR hL k => lv_icmp_gt hA.1 hA.2.1 hd ht (fun _ => k) (fun q => absurd ((i32_lt hz hx).mpr hc) q)) (kt hc)
  · exact go_st (fun p e R s m args below meth c H locs cells slots ls Qf hA hR hL k => lv_icmp_gt hA.1 hA.2.1 hd ht (fun q => absurd ((i32_lt hz hx).mp q) hc) (fun _ => k)) (kf hc)
theorem go_icmp_le {x z : Int} {off : Int} {tgt : Nat} (hd : decode y.2.1 pc = .ok (.if_icmp .le off, 3)) (ht : (pc : Int) + off = (tgt : Int)) (hx : i32 x) (hz : i32 z) (kt : x ≤ z → mGo G y d L M tgt st pc9 st9) (kf : ¬ (x ≤ z) → mGo G y d L M (pc + 3) st pc9 st9) : mGo G y d L M pc (vi z :: vi x :: st) pc9 st9 := by
  by_cases hc : x ≤ z
  · exact go_st (fun p e R s m args below meth c H locs cells slots ls Qf hA hR hL k => lv_icmp_le hA.1 hA.2.1 hd ht (fun _ => k) (fun q => absurd ((i32_le hx hz).mpr hc) q)) (kt hc)
  · exact go_st (fun p e R s m args below meth c H locs cells slots ls Qf hA hR hL k => lv_icmp_le hA.1 hA.2.1 hd ht (fun q => absurd ((i32_le hx hz).mp q) hc) (fun _ => k)) (kf hc)
theorem go_goto {off : Int} {tgt : Nat} (hd : decode y.2.1 pc = .ok (.goto off, 3)) (ht : (pc : Int) + off = (tgt : Int)) (h : mGo G y d L M tgt st pc9 st9) : mGo G y d L M pc st pc9 st9 := go_st (fun p e R s m args below meth c H locs cells slots ls Qf hA hR hL k => lv_goto hA.1 hA.2.1 hd ht k) h
theorem go_get {c k idx a : Nat} {C : String} {T : u_T} {N : Nat} {t : Nat → FieldType} {v : mV} (hcl : vwCl[c]? = some (C, T, N)) (hty : vwTy[c]? = some t) (hin : ∀ w ∈ u_ws C T N, w ∈ lw_R) (hk : k < N) (hv : fV (t k) M a k = mcv v) (hl : Cond.fieldLink y.1.cls idx (T k).1 (T k).2.1 (T k).2.2.1 ∈ lw_R) (hd : decode y.2.1 pc = .ok (.getfield idx, 3)) (hK : mK M a = c + 1) (h : mGo G y d L M (pc + 3) (v :: st) pc9 st9) : mGo G y d L M pc (vr a :: st) pc9 st9 :=
  go_st (fun p e R s m args below meth co H locs cells slots ls Qf hA hR hL kk => by
    obtain ⟨hb1, cell, q1, q2, q3, q4⟩ := (hR.2.2.2.2.2.2 a).1 c _ t hK hcl hty
    obtain ⟨hx, hb, -, -, -, -, hown, hKK, hts, -⟩ := hA
    obtain ⟨hS, hfc, kC, hkC, hkind⟩ := hKK.1 c _ hcl
    obtain ⟨cf, kf, fi, f, hi, hsl⟩ := hS k hk
    show W p (gL G) e R s m args below meth co H locs cells slots Qf (F0 m pc ls (mcv (vr a) :: st.map mcv))
    rw [hR.own hb1]
    refine W.getf hx hb hown (hts _ hl) hi (u_facts hfc hkC (u_lays hts hin hk) hi).1 q1 (by rw [q3]; exact fun h => by cases h) (v := mcv v) ?_ rfl rfl hd kk
    rw [hsl, q4 k hk]
    exact congrArg some hv) h
theorem go_iald {a : Nat} {i : Int} (hd : decode y.2.1 pc = .ok (.iaload, 1)) (hK : mK M a = 30) (hi : 0 ≤ i ∧ i < mN M a) (h : mGo G y d L M (pc + 1) (vi (mI M a i.toNat) :: st) pc9 st9) : mGo G y d L M pc (vi i :: vr a :: st) pc9 st9 :=
  go_st (fun p e R s m args below meth co H locs cells slots ls Qf hA hR hL kk => by
    obtain ⟨g1, g2, g3⟩ := (hR.2.2.2.2.2.2 a).2.1 0 .int hK rfl
    obtain ⟨hx, hb, -, -, -, -, hown, hKK, hts, -⟩ := hA
    have hi3 : i32 i := ⟨by omega, by omega⟩
    show W p (gL G) e R s m args below meth co H locs cells slots Qf (F0 m pc ls (.int (Int32.ofInt i) :: mcv (vr a) :: st.map mcv))
    rw [hR.own g1]
    exact W.iald (v := mcv (vi (mI M a i.toNat))) hx hb g3 ((hKK.2 0 _ rfl).1 _ _) (fun q => by cases q) (by rw [arrV_size]; exact i32_in hi g2) (by rw [i32_clamp hi3, arrV_read _ _ (by omega)]; rfl) rfl rfl hd kk) h
theorem gg_CA_13 {a : Nat} (hy : y.1.cls = "ChanceArena") (hd : decode y.2.1 pc = .ok (.getfield 13, 3)) (hK : mK M a = 1) (h : mGo G y d L M (pc + 3) (vi (mI M a 1) :: st) pc9 st9) : mGo G y d L M pc (vr a :: st) pc9 st9 := go_get (c := 0) (k := 1) (T := T_CA) (t := t_CA) rfl rfl i_CA (by decide) rfl (by rw [hy]; exact k3_188) hd hK h
theorem gg_CA_34 {a : Nat} (hy : y.1.cls = "ChanceArena") (hd : decode y.2.1 pc = .ok (.getfield 34, 3)) (hK : mK M a = 1) (h : mGo G y d L M (pc + 3) (vr (mR M a 4) :: st) pc9 st9) : mGo G y d L M pc (vr a :: st) pc9 st9 := go_get (c := 0) (k := 4) (T := T_CA) (t := t_CA) rfl rfl i_CA (by decide) rfl (by rw [hy]; exact k3_191) hd hK h
theorem gg_CA_41 {a : Nat} (hy : y.1.cls = "ChanceArena") (hd : decode y.2.1 pc = .ok (.getfield 41, 3)) (hK : mK M a = 1) (h : mGo G y d L M (pc + 3) (vi (mI M a 6) :: st) pc9 st9) : mGo G y d L M pc (vr a :: st) pc9 st9 := go_get (c := 0) (k := 6) (T := T_CA) (t := t_CA) rfl rfl i_CA (by decide) rfl (by rw [hy]; exact k3_193) hd hK h
theorem gg_CA_54 {a : Nat} (hy : y.1.cls = "ChanceArena") (hd : decode y.2.1 pc = .ok (.getfield 54, 3)) (hK : mK M a = 1) (h : mGo G y d L M (pc + 3) (vr (mR M a 9) :: st) pc9 st9) : mGo G y d L M pc (vr a :: st) pc9 st9 := go_get (c := 0) (k := 9) (T := T_CA) (t := t_CA) rfl rfl i_CA (by decide) rfl (by rw [hy]; exact k3_196) hd hK h
theorem gg_CA_70 {a : Nat} (hy : y.1.cls = "ChanceArena") (hd : decode y.2.1 pc = .ok (.getfield 70, 3)) (hK : mK M a = 1) (h : mGo G y d L M (pc + 3) (vr (mR M a 11) :: st) pc9 st9) : mGo G y d L M pc (vr a :: st) pc9 st9 := go_get (c := 0) (k := 11) (T := T_CA) (t := t_CA) rfl rfl i_CA (by decide) rfl (by rw [hy]; exact k3_198) hd hK h
theorem gg_CA_137 {a : Nat} (hy : y.1.cls = "ChanceArena") (hd : decode y.2.1 pc = .ok (.getfield 137, 3)) (hK : mK M a = 13) (h : mGo G y d L M (pc + 3) (vi (mI M a 1) :: st) pc9 st9) : mGo G y d L M pc (vr a :: st) pc9 st9 := go_get (c := 12) (k := 1) (T := T_Fs) (t := t_Fs) rfl rfl i_Fs (by decide) rfl (by rw [hy]; exact k3_177) hd hK h
theorem gg_CA_140 {a : Nat} (hy : y.1.cls = "ChanceArena") (hd : decode y.2.1 pc = .ok (.getfield 140, 3)) (hK : mK M a = 6) (h : mGo G y d L M (pc + 3) (vi (mI M a 3) :: st) pc9 st9) : mGo G y d L M pc (vr a :: st) pc9 st9 := go_get (c := 5) (k := 3) (T := T_Pr) (t := t_Pr) rfl rfl i_Pr (by decide) rfl (by rw [hy]; exact k2_35) hd hK h
theorem gg_CA_160 {a : Nat} (hy : y.1.cls = "ChanceArena") (hd : decode y.2.1 pc = .ok (.getfield 160, 3)) (hK : mK M a = 7) (h : mGo G y d L M (pc + 3) (vi (mI M a 0) :: st) pc9 st9) : mGo G y d L M pc (vr a :: st) pc9 st9 := go_get (c := 6) (k := 0) (T := T_Ga) (t := t_Ga) rfl rfl i_Ga (by decide) rfl (by rw [hy]; exact k2_138) hd hK h
theorem gg_Ga_21 {a : Nat} (hy : y.1.cls = "ChanceArena$Game") (hd : decode y.2.1 pc = .ok (.getfield 21, 3)) (hK : mK M a = 7) (h : mGo G y d L M (pc + 3) (vr (mR M a 4) :: st) pc9 st9) : mGo G y d L M pc (vr a :: st) pc9 st9 := go_get (c := 6) (k := 4) (T := T_Ga) (t := t_Ga) rfl rfl i_Ga (by decide) rfl (by rw [hy]; exact k2_149) hd hK h
theorem gg_Ga_55 {a : Nat} (hy : y.1.cls = "ChanceArena$Game") (hd : decode y.2.1 pc = .ok (.getfield 55, 3)) (hK : mK M a = 7) (h : mGo G y d L M (pc + 3) (vi (mI M a 0) :: st) pc9 st9) : mGo G y d L M pc (vr a :: st) pc9 st9 := go_get (c := 6) (k := 0) (T := T_Ga) (t := t_Ga) rfl rfl i_Ga (by decide) rfl (by rw [hy]; exact k2_134) hd hK h
end GO
end
