theorem k11_29 : (Jvm.Cond.code ({ cls := "ChanceArenaModel", name := "signKind", desc := "(I)I" } : Jvm.MethodName) prog_15_method_13_code (3 : Nat) (Option.some Jvm.ClassFile.FieldType.int)) ∈ lw_R := zR (zk_11 _ (List.mem_of_getElem? (i := 29) (by decide +kernel))) rfl
theorem k11_65 : (Jvm.Cond.code ({ cls := "ChanceArenaModel", name := "level", desc := "()Z" } : Jvm.MethodName) prog_15_method_17_code (1 : Nat) (Option.some Jvm.ClassFile.FieldType.boolean)) ∈ lw_R := zR (zk_11 _ (List.mem_of_getElem? (i := 65) (by decide +kernel))) rfl
theorem k11_76 : (Jvm.Cond.code ({ cls := "ChanceArenaModel", name := "isComparison", desc := "(I)Z" } : Jvm.MethodName) prog_15_method_18_code (1 : Nat) (Option.some Jvm.ClassFile.FieldType.boolean)) ∈ lw_R := zR (zk_11 _ (List.mem_of_getElem? (i := 76) (by decide +kernel))) rfl
theorem d_MM_signKind_0 : decode prog_15_method_13_code 0 = .ok (.aload_n 0, 1) := by decide +kernel
theorem d_MM_signKind_1 : decode prog_15_method_13_code 1 = .ok (.iload_n 1, 1) := by decide +kernel
theorem d_MM_signKind_2 : decode prog_15_method_13_code 2 = .ok (.iconst 1, 1) := by decide +kernel
theorem d_MM_signKind_3 : decode prog_15_method_13_code 3 = .ok (.iadd, 1) := by decide +kernel
theorem d_MM_signKind_4 : decode prog_15_method_13_code 4 = .ok (.invokevirtual 159, 3) := by decide +kernel
theorem d_MM_signKind_7 : decode prog_15_method_13_code 7 = .ok (.istore_n 2, 1) := by decide +kernel
theorem d_MM_signKind_8 : decode prog_15_method_13_code 8 = .ok (.aload_n 0, 1) := by decide +kernel
theorem d_MM_signKind_9 : decode prog_15_method_13_code 9 = .ok (.iload_n 1, 1) := by decide +kernel
theorem d_MM_signKind_10 : decode prog_15_method_13_code 10 = .ok (.invokevirtual 159, 3) := by decide +kernel
theorem d_MM_signKind_13 : decode prog_15_method_13_code 13 = .ok (.lookupswitch 275 #[(33, 191), (37, 245), (38, 248), (39, 272), (40, 266), (41, 269), (42, 239), (43, 236), (44, 263), (45, 177), (46, 163), (47, 242), (58, 257), (59, 260), (60, 205), (61, 233), (62, 219), (63, 254), (124, 251)], 163) := by decide +kernel
theorem d_MM_signKind_204 : decode prog_15_method_13_code 204 = .ok (.iload_n 2, 1) := by decide +kernel
theorem d_MM_signKind_205 : decode prog_15_method_13_code 205 = .ok (.bipush 61, 2) := by decide +kernel
theorem d_MM_signKind_207 : decode prog_15_method_13_code 207 = .ok (.if_icmp .ne 8, 3) := by decide +kernel
theorem d_MM_signKind_215 : decode prog_15_method_13_code 215 = .ok (.bipush 31, 2) := by decide +kernel
theorem d_MM_signKind_210 : decode prog_15_method_13_code 210 = .ok (.bipush 18, 2) := by decide +kernel
theorem d_MM_signKind_212 : decode prog_15_method_13_code 212 = .ok (.goto 5, 3) := by decide +kernel
theorem d_MM_signKind_258 : decode prog_15_method_13_code 258 = .ok (.bipush 28, 2) := by decide +kernel
theorem d_MM_signKind_260 : decode prog_15_method_13_code 260 = .ok (.ireturn, 1) := by decide +kernel
theorem d_MM_signKind_261 : decode prog_15_method_13_code 261 = .ok (.bipush 29, 2) := by decide +kernel
theorem d_MM_signKind_263 : decode prog_15_method_13_code 263 = .ok (.ireturn, 1) := by decide +kernel
theorem d_MM_signKind_285 : decode prog_15_method_13_code 285 = .ok (.bipush 38, 2) := by decide +kernel
theorem d_MM_signKind_287 : decode prog_15_method_13_code 287 = .ok (.ireturn, 1) := by decide +kernel
theorem d_MM_signKind_279 : decode prog_15_method_13_code 279 = .ok (.bipush 36, 2) := by decide +kernel
theorem d_MM_signKind_281 : decode prog_15_method_13_code 281 = .ok (.ireturn, 1) := by decide +kernel
theorem d_MM_signKind_282 : decode prog_15_method_13_code 282 = .ok (.bipush 37, 2) := by decide +kernel
theorem d_MM_signKind_284 : decode prog_15_method_13_code 284 = .ok (.ireturn, 1) := by decide +kernel
theorem d_MM_signKind_252 : decode prog_15_method_13_code 252 = .ok (.bipush 26, 2) := by decide +kernel
theorem d_MM_signKind_254 : decode prog_15_method_13_code 254 = .ok (.ireturn, 1) := by decide +kernel
theorem d_MM_signKind_249 : decode prog_15_method_13_code 249 = .ok (.bipush 24, 2) := by decide +kernel
theorem d_MM_signKind_251 : decode prog_15_method_13_code 251 = .ok (.ireturn, 1) := by decide +kernel
theorem d_MM_signKind_276 : decode prog_15_method_13_code 276 = .ok (.bipush 35, 2) := by decide +kernel
theorem d_MM_signKind_278 : decode prog_15_method_13_code 278 = .ok (.ireturn, 1) := by decide +kernel
theorem d_MM_signKind_190 : decode prog_15_method_13_code 190 = .ok (.iload_n 2, 1) := by decide +kernel
theorem d_MM_signKind_191 : decode prog_15_method_13_code 191 = .ok (.bipush 62, 2) := by decide +kernel
theorem d_MM_signKind_193 : decode prog_15_method_13_code 193 = .ok (.if_icmp .ne 8, 3) := by decide +kernel
theorem d_MM_signKind_201 : decode prog_15_method_13_code 201 = .ok (.bipush 25, 2) := by decide +kernel
theorem d_MM_signKind_196 : decode prog_15_method_13_code 196 = .ok (.bipush 17, 2) := by decide +kernel
theorem d_MM_signKind_198 : decode prog_15_method_13_code 198 = .ok (.goto 5, 3) := by decide +kernel
theorem d_MM_signKind_176 : decode prog_15_method_13_code 176 = .ok (.iload_n 2, 1) := by decide +kernel
theorem d_MM_signKind_177 : decode prog_15_method_13_code 177 = .ok (.bipush 46, 2) := by decide +kernel
theorem d_MM_signKind_179 : decode prog_15_method_13_code 179 = .ok (.if_icmp .ne 8, 3) := by decide +kernel
theorem d_MM_signKind_187 : decode prog_15_method_13_code 187 = .ok (.bipush 39, 2) := by decide +kernel
theorem d_MM_signKind_182 : decode prog_15_method_13_code 182 = .ok (.bipush 16, 2) := by decide +kernel
theorem d_MM_signKind_184 : decode prog_15_method_13_code 184 = .ok (.goto 5, 3) := by decide +kernel
theorem d_MM_signKind_255 : decode prog_15_method_13_code 255 = .ok (.bipush 27, 2) := by decide +kernel
theorem d_MM_signKind_257 : decode prog_15_method_13_code 257 = .ok (.ireturn, 1) := by decide +kernel
theorem d_MM_signKind_270 : decode prog_15_method_13_code 270 = .ok (.bipush 33, 2) := by decide +kernel
theorem d_MM_signKind_272 : decode prog_15_method_13_code 272 = .ok (.ireturn, 1) := by decide +kernel
theorem d_MM_signKind_273 : decode prog_15_method_13_code 273 = .ok (.bipush 34, 2) := by decide +kernel
theorem d_MM_signKind_275 : decode prog_15_method_13_code 275 = .ok (.ireturn, 1) := by decide +kernel
theorem d_MM_signKind_218 : decode prog_15_method_13_code 218 = .ok (.iload_n 2, 1) := by decide +kernel
theorem d_MM_signKind_219 : decode prog_15_method_13_code 219 = .ok (.bipush 61, 2) := by decide +kernel
theorem d_MM_signKind_221 : decode prog_15_method_13_code 221 = .ok (.if_icmp .ne 8, 3) := by decide +kernel
theorem d_MM_signKind_229 : decode prog_15_method_13_code 229 = .ok (.bipush 21, 2) := by decide +kernel
theorem d_MM_signKind_224 : decode prog_15_method_13_code 224 = .ok (.bipush 19, 2) := by decide +kernel
theorem d_MM_signKind_226 : decode prog_15_method_13_code 226 = .ok (.goto 5, 3) := by decide +kernel
theorem d_MM_signKind_246 : decode prog_15_method_13_code 246 = .ok (.bipush 23, 2) := by decide +kernel
theorem d_MM_signKind_248 : decode prog_15_method_13_code 248 = .ok (.ireturn, 1) := by decide +kernel
theorem d_MM_signKind_232 : decode prog_15_method_13_code 232 = .ok (.iload_n 2, 1) := by decide +kernel
theorem d_MM_signKind_233 : decode prog_15_method_13_code 233 = .ok (.bipush 61, 2) := by decide +kernel
theorem d_MM_signKind_235 : decode prog_15_method_13_code 235 = .ok (.if_icmp .ne 8, 3) := by decide +kernel
theorem d_MM_signKind_243 : decode prog_15_method_13_code 243 = .ok (.bipush 22, 2) := by decide +kernel
theorem d_MM_signKind_238 : decode prog_15_method_13_code 238 = .ok (.bipush 20, 2) := by decide +kernel
theorem d_MM_signKind_240 : decode prog_15_method_13_code 240 = .ok (.goto 5, 3) := by decide +kernel
theorem d_MM_signKind_267 : decode prog_15_method_13_code 267 = .ok (.bipush 32, 2) := by decide +kernel
theorem d_MM_signKind_269 : decode prog_15_method_13_code 269 = .ok (.ireturn, 1) := by decide +kernel
theorem d_MM_signKind_264 : decode prog_15_method_13_code 264 = .ok (.bipush 30, 2) := by decide +kernel
theorem d_MM_signKind_266 : decode prog_15_method_13_code 266 = .ok (.ireturn, 1) := by decide +kernel
theorem d_MM_signKind_288 : decode prog_15_method_13_code 288 = .ok (.bipush 39, 2) := by decide +kernel
theorem d_MM_signKind_290 : decode prog_15_method_13_code 290 = .ok (.ireturn, 1) := by decide +kernel
theorem d_MM_signKind_189 : decode prog_15_method_13_code 189 = .ok (.ireturn, 1) := by decide +kernel
theorem d_MM_signKind_203 : decode prog_15_method_13_code 203 = .ok (.ireturn, 1) := by decide +kernel
theorem d_MM_signKind_217 : decode prog_15_method_13_code 217 = .ok (.ireturn, 1) := by decide +kernel
theorem d_MM_signKind_231 : decode prog_15_method_13_code 231 = .ok (.ireturn, 1) := by decide +kernel
theorem d_MM_signKind_245 : decode prog_15_method_13_code 245 = .ok (.ireturn, 1) := by decide +kernel
theorem d_MM_level_0 : decode prog_15_method_17_code 0 = .ok (.aload_n 0, 1) := by decide +kernel
theorem d_MM_level_1 : decode prog_15_method_17_code 1 = .ok (.aload_n 0, 1) := by decide +kernel
theorem d_MM_level_2 : decode prog_15_method_17_code 2 = .ok (.getfield 226, 3) := by decide +kernel
theorem d_MM_level_5 : decode prog_15_method_17_code 5 = .ok (.iconst 1, 1) := by decide +kernel
theorem d_MM_level_6 : decode prog_15_method_17_code 6 = .ok (.iadd, 1) := by decide +kernel
theorem d_MM_level_7 : decode prog_15_method_17_code 7 = .ok (.putfield 226, 3) := by decide +kernel
theorem d_MM_level_10 : decode prog_15_method_17_code 10 = .ok (.aload_n 0, 1) := by decide +kernel
theorem d_MM_level_11 : decode prog_15_method_17_code 11 = .ok (.getfield 226, 3) := by decide +kernel
theorem d_MM_level_14 : decode prog_15_method_17_code 14 = .ok (.bipush 40, 2) := by decide +kernel
theorem d_MM_level_16 : decode prog_15_method_17_code 16 = .ok (.if_icmp .gt 7, 3) := by decide +kernel
theorem d_MM_level_23 : decode prog_15_method_17_code 23 = .ok (.iconst 0, 1) := by decide +kernel
theorem d_MM_level_24 : decode prog_15_method_17_code 24 = .ok (.ireturn, 1) := by decide +kernel
theorem d_MM_level_19 : decode prog_15_method_17_code 19 = .ok (.iconst 1, 1) := by decide +kernel
theorem d_MM_level_20 : decode prog_15_method_17_code 20 = .ok (.goto 4, 3) := by decide +kernel
theorem d_MM_isComparison_0 : decode prog_15_method_18_code 0 = .ok (.iload_n 0, 1) := by decide +kernel
theorem d_MM_isComparison_1 : decode prog_15_method_18_code 1 = .ok (.bipush 23, 2) := by decide +kernel
theorem d_MM_isComparison_3 : decode prog_15_method_18_code 3 = .ok (.if_icmp .eq 33, 3) := by decide +kernel
theorem d_MM_isComparison_36 : decode prog_15_method_18_code 36 = .ok (.iconst 1, 1) := by decide +kernel
theorem d_MM_isComparison_37 : decode prog_15_method_18_code 37 = .ok (.goto 4, 3) := by decide +kernel
theorem d_MM_isComparison_41 : decode prog_15_method_18_code 41 = .ok (.ireturn, 1) := by decide +kernel
theorem d_MM_isComparison_6 : decode prog_15_method_18_code 6 = .ok (.iload_n 0, 1) := by decide +kernel
theorem d_MM_isComparison_7 : decode prog_15_method_18_code 7 = .ok (.bipush 18, 2) := by decide +kernel
theorem d_MM_isComparison_9 : decode prog_15_method_18_code 9 = .ok (.if_icmp .eq 27, 3) := by decide +kernel
theorem d_MM_isComparison_12 : decode prog_15_method_18_code 12 = .ok (.iload_n 0, 1) := by decide +kernel
theorem d_MM_isComparison_13 : decode prog_15_method_18_code 13 = .ok (.bipush 21, 2) := by decide +kernel
theorem d_MM_isComparison_15 : decode prog_15_method_18_code 15 = .ok (.if_icmp .eq 21, 3) := by decide +kernel
theorem d_MM_isComparison_18 : decode prog_15_method_18_code 18 = .ok (.iload_n 0, 1) := by decide +kernel
theorem d_MM_isComparison_19 : decode prog_15_method_18_code 19 = .ok (.bipush 19, 2) := by decide +kernel
theorem d_MM_isComparison_21 : decode prog_15_method_18_code 21 = .ok (.if_icmp .eq 15, 3) := by decide +kernel
theorem d_MM_isComparison_24 : decode prog_15_method_18_code 24 = .ok (.iload_n 0, 1) := by decide +kernel
theorem d_MM_isComparison_25 : decode prog_15_method_18_code 25 = .ok (.bipush 22, 2) := by decide +kernel
theorem d_MM_isComparison_27 : decode prog_15_method_18_code 27 = .ok (.if_icmp .eq 9, 3) := by decide +kernel
theorem d_MM_isComparison_30 : decode prog_15_method_18_code 30 = .ok (.iload_n 0, 1) := by decide +kernel
theorem d_MM_isComparison_31 : decode prog_15_method_18_code 31 = .ok (.bipush 20, 2) := by decide +kernel
theorem d_MM_isComparison_33 : decode prog_15_method_18_code 33 = .ok (.if_icmp .ne 7, 3) := by decide +kernel
theorem d_MM_isComparison_40 : decode prog_15_method_18_code 40 = .ok (.iconst 0, 1) := by decide +kernel
def f_MM_signKind (h0_text_all_n : Nat) (l1 : Int32) (h0_text_size : Int32) (h0_text_all_c : Nat → Int32) : Nat → Nat → Int32 → Int32 → Option (Int32)
  | 0, _, _, _ => none
  | n + 1, 0, l2, k0 => Option.bind (f_MM_letter h0_text_all_n (l1 + 1) h0_text_size h0_text_all_c) (fun o1 => Option.bind (f_MM_letter h0_text_all_n l1 h0_text_size h0_text_all_c) (fun o2 => if (o2 : Int32).toInt = 33 then (if ¬ (o1 : Int32) = 61 then f_MM_signKind h0_text_all_n l1 h0_text_size h0_text_all_c n 3 o1 31 else f_MM_signKind h0_text_all_n l1 h0_text_size h0_text_all_c n 3 o1 18) else if (o2 : Int32).toInt = 37 then (some (28)) else if (o2 : Int32).toInt = 38 then (some (29)) else if (o2 : Int32).toInt = 39 then (some (38)) else if (o2 : Int32).toInt = 40 then (some (36)) else if (o2 : Int32).toInt = 41 then (some (37)) else if (o2 : Int32).toInt = 42 then (some (26)) else if (o2 : Int32).toInt = 43 then (some (24)) else if (o2 : Int32).toInt = 44 then (some (35)) else if (o2 : Int32).toInt = 45 then (if ¬ (o1 : Int32) = 62 then f_MM_signKind h0_text_all_n l1 h0_text_size h0_text_all_c n 2 o1 25 else f_MM_signKind h0_text_all_n l1 h0_text_size h0_text_all_c n 2 o1 17) else if (o2 : Int32).toInt = 46 then (if ¬ (o1 : Int32) = 46 then f_MM_signKind h0_text_all_n l1 h0_text_size h0_text_all_c n 1 o1 39 else f_MM_signKind h0_text_all_n l1 h0_text_size h0_text_all_c n 1 o1 16) else if (o2 : Int32).toInt = 47 then (some (27)) else if (o2 : Int32).toInt = 58 then (some (33)) else if (o2 : Int32).toInt = 59 then (some (34)) else if (o2 : Int32).toInt = 60 then (if ¬ (o1 : Int32) = 61 then f_MM_signKind h0_text_all_n l1 h0_text_size h0_text_all_c n 4 o1 21 else f_MM_signKind h0_text_all_n l1 h0_text_size h0_text_all_c n 4 o1 19) else if (o2 : Int32).toInt = 61 then (some (23)) else if (o2 : Int32).toInt = 62 then (if ¬ (o1 : Int32) = 61 then f_MM_signKind h0_text_all_n l1 h0_text_size h0_text_all_c n 5 o1 22 else f_MM_signKind h0_text_all_n l1 h0_text_size h0_text_all_c n 5 o1 20) else if (o2 : Int32).toInt = 63 then (some (32)) else if (o2 : Int32).toInt = 124 then (some (30)) else some (39)))
  | n + 1, 1, l2, k0 => some (k0)
  | n + 1, 2, l2, k0 => some (k0)
  | n + 1, 3, l2, k0 => some (k0)
  | n + 1, 4, l2, k0 => some (k0)
  | n + 1, 5, l2, k0 => some (k0)
  | _ + 1, _ + 6, _, _ => none
theorem e_MM_signKind_0 (h0_text_all_n : Nat) (l1 : Int32) (h0_text_size : Int32) (h0_text_all_c : Nat → Int32) (n : Nat) (l2 : Int32) (k0 : Int32) : f_MM_signKind h0_text_all_n l1 h0_text_size h0_text_all_c (n + 1) 0 l2 k0 = Option.bind (f_MM_letter h0_text_all_n (l1 + 1) h0_text_size h0_text_all_c) (fun o1 => Option.bind (f_MM_letter h0_text_all_n l1 h0_text_size h0_text_all_c) (fun o2 => if (o2 : Int32).toInt = 33 then (if ¬ (o1 : Int32) = 61 then f_MM_signKind h0_text_all_n l1 h0_text_size h0_text_all_c n 3 o1 31 else f_MM_signKind h0_text_all_n l1 h0_text_size h0_text_all_c n 3 o1 18) else if (o2 : Int32).toInt = 37 then (some (28)) else if (o2 : Int32).toInt = 38 then (some (29)) else if (o2 : Int32).toInt = 39 then (some (38)) else if (o2 : Int32).toInt = 40 then (some (36)) else if (o2 : Int32).toInt = 41 then (some (37)) else if (o2 : Int32).toInt = 42 then (some (26)) else if (o2 : Int32).toInt = 43 then (some (24)) else if (o2 : Int32).toInt = 44 then (some (35)) else if (o2 : Int32).toInt = 45 then (if ¬ (o1 : Int32) = 62 then f_MM_signKind h0_text_all_n l1 h0_text_size h0_text_all_c n 2 o1 25 else f_MM_signKind h0_text_all_n l1 h0_text_size h0_text_all_c n 2 o1 17) else if (o2 : Int32).toInt = 46 then (if ¬ (o1 : Int32) = 46 then f_MM_signKind h0_text_all_n l1 h0_text_size h0_text_all_c n 1 o1 39 else f_MM_signKind h0_text_all_n l1 h0_text_size h0_text_all_c n 1 o1 16) else if (o2 : Int32).toInt = 47 then (some (27)) else if (o2 : Int32).toInt = 58 then (some (33)) else if (o2 : Int32).toInt = 59 then (some (34)) else if (o2 : Int32).toInt = 60 then (if ¬ (o1 : Int32) = 61 then f_MM_signKind h0_text_all_n l1 h0_text_size h0_text_all_c n 4 o1 21 else f_MM_signKind h0_text_all_n l1 h0_text_size h0_text_all_c n 4 o1 19) else if (o2 : Int32).toInt = 61 then (some (23)) else if (o2 : Int32).toInt = 62 then (if ¬ (o1 : Int32) = 61 then f_MM_signKind h0_text_all_n l1 h0_text_size h0_text_all_c n 5 o1 22 else f_MM_signKind h0_text_all_n l1 h0_text_size h0_text_all_c n 5 o1 20) else if (o2 : Int32).toInt = 63 then (some (32)) else if (o2 : Int32).toInt = 124 then (some (30)) else some (39))) := by rw [f_MM_signKind]
theorem e_MM_signKind_1 (h0_text_all_n : Nat) (l1 : Int32) (h0_text_size : Int32) (h0_text_all_c : Nat → Int32) (n : Nat) (l2 : Int32) (k0 : Int32) : f_MM_signKind h0_text_all_n l1 h0_text_size h0_text_all_c (n + 1) 1 l2 k0 = some (k0) := by rw [f_MM_signKind]
theorem e_MM_signKind_2 (h0_text_all_n : Nat) (l1 : Int32) (h0_text_size : Int32) (h0_text_all_c : Nat → Int32) (n : Nat) (l2 : Int32) (k0 : Int32) : f_MM_signKind h0_text_all_n l1 h0_text_size h0_text_all_c (n + 1) 2 l2 k0 = some (k0) := by rw [f_MM_signKind]
theorem e_MM_signKind_3 (h0_text_all_n : Nat) (l1 : Int32) (h0_text_size : Int32) (h0_text_all_c : Nat → Int32) (n : Nat) (l2 : Int32) (k0 : Int32) : f_MM_signKind h0_text_all_n l1 h0_text_size h0_text_all_c (n + 1) 3 l2 k0 = some (k0) := by rw [f_MM_signKind]
theorem e_MM_signKind_4 (h0_text_all_n : Nat) (l1 : Int32) (h0_text_size : Int32) (h0_text_all_c : Nat → Int32) (n : Nat) (l2 : Int32) (k0 : Int32) : f_MM_signKind h0_text_all_n l1 h0_text_size h0_text_all_c (n + 1) 4 l2 k0 = some (k0) := by rw [f_MM_signKind]
theorem e_MM_signKind_5 (h0_text_all_n : Nat) (l1 : Int32) (h0_text_size : Int32) (h0_text_all_c : Nat → Int32) (n : Nat) (l2 : Int32) (k0 : Int32) : f_MM_signKind h0_text_all_n l1 h0_text_size h0_text_all_c (n + 1) 5 l2 k0 = some (k0) := by rw [f_MM_signKind]
theorem z_MM_signKind (h0_text_all_n : Nat) (l1 : Int32) (h0_text_size : Int32) (h0_text_all_c : Nat → Int32) (h : Nat) (l2 : Int32) (k0 : Int32) : f_MM_signKind h0_text_all_n l1 h0_text_size h0_text_all_c 0 h l2 k0 = none := by rw [f_MM_signKind]
set_option maxHeartbeats 4000000 in
set_option maxRecDepth 100000 in
theorem b_MM_signKind_0 {p : Program} {l : Launch} {e : Env} {s : State} {m : MethodId} {args : Array Value} {below : List Frame} {meth : Method} {c : Code} {D : va_G} {tA : Nat → ClassId} {A : Nat → Prop} {h0 h0_text h0_text_all : Nat} {f0_h0 f0_h0_text : List Value} {h0_text_all_n : Nat} {l1 : Int32} {h0_text_size : Int32} {h0_text_all_c : Nat → Int32} {out : Int32} (hx : p.tables.exec = Jvm.exec) (hb : c.code = prog_15_method_13_code) (hr : meth.sig.returnType = (Option.some Jvm.ClassFile.FieldType.int)) (hml : c.maxLocals = 3) (hh : zH s) (hg : ∀ w ∈ lw_R, w.before args s = true) (hown : s.vm.findClass "ChanceArenaModel" = some m.cls) (hlocks : meth.locks = false) (hK : va_K D vwCl (zT tA) s) (hA : ∀ q, s.heap.size ≤ q → A q) {n : Nat} (ih1 : ∀ (l2 : Int32) (k0 : Int32) (H : Heap) (locs : List Loc) (ls : Array Slot), f_MM_signKind h0_text_all_n l1 h0_text_size h0_text_all_c n 1 l2 k0 = some out → f0_h0[2]? = some (.ref h0_text) → f0_h0_text[0]? = some (.ref h0_text_all) → f0_h0_text[1]? = some (.int h0_text_size) → va_P D vwCl [(h0, .inr (13, f0_h0)), (h0_text, .inr (14, f0_h0_text)), (h0_text_all, .inl (tA 0, h0_text_all_n, .inl h0_text_all_c))] H → va_D A [(h0, .inr (13, f0_h0)), (h0_text, .inr (14, f0_h0_text)), (h0_text_all, .inl (tA 0, h0_text_all_n, .inl h0_text_all_c))] → va_S A s.heap H locs → lv_has ls 3 [(0, .ref h0), (1, .int l1), (2, .int l2)] → W p l e { frames := 2, cells := 0, slots := 0, locals := 42 } s m args below meth c H locs 0 0 (MQ below (va_Qi (fun (r9 : Int32) (u9 : Unit) => r9 = out) (zPost D A (fun (u9 : Unit) => [(h0, .inr (13, f0_h0)), (h0_text, .inr (14, f0_h0_text)), (h0_text_all, .inl (tA 0, h0_text_all_n, .inl h0_text_all_c))])) A) args s 0 0 A) (F0 m 189 ls [.int k0])) (ih2 : ∀ (l2 : Int32) (k0 : Int32) (H : Heap) (locs : List Loc) (ls : Array Slot), f_MM_signKind h0_text_all_n l1 h0_text_size h0_text_all_c n 2 l2 k0 = some out → f0_h0[2]? = some (.ref h0_text) → f0_h0_text[0]? = some (.ref h0_text_all) → f0_h0_text[1]? = some (.int h0_text_size) → va_P D vwCl [(h0, .inr (13, f0_h0)), (h0_text, .inr (14, f0_h0_text)), (h0_text_all, .inl (tA 0, h0_text_all_n, .inl h0_text_all_c))] H → va_D A [(h0, .inr (13, f0_h0)), (h0_text, .inr (14, f0_h0_text)), (h0_text_all, .inl (tA 0, h0_text_all_n, .inl h0_text_all_c))] → va_S A s.heap H locs → lv_has ls 3 [(0, .ref h0), (1, .int l1), (2, .int l2)] → W p l e { frames := 2, cells := 0, slots := 0, locals := 42 } s m args below meth c H locs 0 0 (MQ below (va_Qi (fun (r9 : Int32) (u9 : Unit) => r9 = out) (zPost D A (fun (u9 : Unit) => [(h0, .inr (13, f0_h0)), (h0_text, .inr (14, f0_h0_text)), (h0_text_all, .inl (tA 0, h0_text_all_n, .inl h0_text_all_c))])) A) args s 0 0 A) (F0 m 203 ls [.int k0])) (ih3 : ∀ (l2 : Int32) (k0 : Int32) (H : Heap) (locs : List Loc) (ls : Array Slot), f_MM_signKind h0_text_all_n l1 h0_text_size h0_text_all_c n 3 l2 k0 = some out → f0_h0[2]? = some (.ref h0_text) → f0_h0_text[0]? = some (.ref h0_text_all) → f0_h0_text[1]? = some (.int h0_text_size) → va_P D vwCl [(h0, .inr (13, f0_h0)), (h0_text, .inr (14, f0_h0_text)), (h0_text_all, .inl (tA 0, h0_text_all_n, .inl h0_text_all_c))] H → va_D A [(h0, .inr (13, f0_h0)), (h0_text, .inr (14, f0_h0_text)), (h0_text_all, .inl (tA 0, h0_text_all_n, .inl h0_text_all_c))] → va_S A s.heap H locs → lv_has ls 3 [(0, .ref h0), (1, .int l1), (2, .int l2)] → W p l e { frames := 2, cells := 0, slots := 0, locals := 42 } s m args below meth c H locs 0 0 (MQ below (va_Qi (fun (r9 : Int32) (u9 : Unit) => r9 = out) (zPost D A (fun (u9 : Unit) => [(h0, .inr (13, f0_h0)), (h0_text, .inr (14, f0_h0_text)), (h0_text_all, .inl (tA 0, h0_text_all_n, .inl h0_text_all_c))])) A) args s 0 0 A) (F0 m 217 ls [.int k0])) (ih4 : ∀ (l2 : Int32) (k0 : Int32) (H : Heap) (locs : List Loc) (ls : Array Slot), f_MM_signKind h0_text_all_n l1 h0_text_size h0_text_all_c n 4 l2 k0 = some out → f0_h0[2]? = some (.ref h0_text) → f0_h0_text[0]? = some (.ref h0_text_all) → f0_h0_text[1]? = some (.int h0_text_size) → va_P D vwCl [(h0, .inr (13, f0_h0)), (h0_text, .inr (14, f0_h0_text)), (h0_text_all, .inl (tA 0, h0_text_all_n, .inl h0_text_all_c))] H → va_D A [(h0, .inr (13, f0_h0)), (h0_text, .inr (14, f0_h0_text)), (h0_text_all, .inl (tA 0, h0_text_all_n, .inl h0_text_all_c))] → va_S A s.heap H locs → lv_has ls 3 [(0, .ref h0), (1, .int l1), (2, .int l2)] → W p l e { frames := 2, cells := 0, slots := 0, locals := 42 } s m args below meth c H locs 0 0 (MQ below (va_Qi (fun (r9 : Int32) (u9 : Unit) => r9 = out) (zPost D A (fun (u9 : Unit) => [(h0, .inr (13, f0_h0)), (h0_text, .inr (14, f0_h0_text)), (h0_text_all, .inl (tA 0, h0_text_all_n, .inl h0_text_all_c))])) A) args s 0 0 A) (F0 m 231 ls [.int k0])) (ih5 : ∀ (l2 : Int32) (k0 : Int32) (H : Heap) (locs : List Loc) (ls : Array Slot), f_MM_signKind h0_text_all_n l1 h0_text_size h0_text_all_c n 5 l2 k0 = some out → f0_h0[2]? = some (.ref h0_text) → f0_h0_text[0]? = some (.ref h0_text_all) → f0_h0_text[1]? = some (.int h0_text_size) → va_P D vwCl [(h0, .inr (13, f0_h0)), (h0_text, .inr (14, f0_h0_text)), (h0_text_all, .inl (tA 0, h0_text_all_n, .inl h0_text_all_c))] H → va_D A [(h0, .inr (13, f0_h0)), (h0_text, .inr (14, f0_h0_text)), (h0_text_all, .inl (tA 0, h0_text_all_n, .inl h0_text_all_c))] → va_S A s.heap H locs → lv_has ls 3 [(0, .ref h0), (1, .int l1), (2, .int l2)] → W p l e { frames := 2, cells := 0, slots := 0, locals := 42 } s m args below meth c H locs 0 0 (MQ below (va_Qi (fun (r9 : Int32) (u9 : Unit) => r9 = out) (zPost D A (fun (u9 : Unit) => [(h0, .inr (13, f0_h0)), (h0_text, .inr (14, f0_h0_text)), (h0_text_all, .inl (tA 0, h0_text_all_n, .inl h0_text_all_c))])) A) args s 0 0 A) (F0 m 245 ls [.int k0])) : ∀ (l2 : Int32) (k0 : Int32) (H : Heap) (locs : List Loc) (ls : Array Slot), f_MM_signKind h0_text_all_n l1 h0_text_size h0_text_all_c (n + 1) 0 l2 k0 = some out → f0_h0[2]? = some (.ref h0_text) → f0_h0_text[0]? = some (.ref h0_text_all) → f0_h0_text[1]? = some (.int h0_text_size) → va_P D vwCl [(h0, .inr (13, f0_h0)), (h0_text, .inr (14, f0_h0_text)), (h0_text_all, .inl (tA 0, h0_text_all_n, .inl h0_text_all_c))] H → va_D A [(h0, .inr (13, f0_h0)), (h0_text, .inr (14, f0_h0_text)), (h0_text_all, .inl (tA 0, h0_text_all_n, .inl h0_text_all_c))] → va_S A s.heap H locs → lv_has ls 3 [(0, .ref h0), (1, .int l1)] → W p l e { frames := 2, cells := 0, slots := 0, locals := 42 } s m args below meth c H locs 0 0 (MQ below (va_Qi (fun (r9 : Int32) (u9 : Unit) => r9 = out) (zPost D A (fun (u9 : Unit) => [(h0, .inr (13, f0_h0)), (h0_text, .inr (14, f0_h0_text)), (h0_text_all, .inl (tA 0, h0_text_all_n, .inl h0_text_all_c))])) A) args s 0 0 A) (F0 m 0 ls []) := by
  intro l2 k0   H locs ls hF q_h0_text q_h0_text_all q_h0_text_size hP hD hS hl
  rw [e_MM_signKind_0] at hF
  refine lv_aload_n hx hb d_MM_signKind_0 rfl (lv_at hl 0 rfl) ?_
  refine lv_iload_n hx hb d_MM_signKind_1 rfl (lv_at hl 1 rfl) ?_
  refine lv_iconst (v := 1) hx hb d_MM_signKind_2 (by decide) ?_
  refine lv_iadd hx hb d_MM_signKind_3 ?_
  obtain ⟨o1, h1, hF⟩ := bsome hF
  refine zCalli (wc := [(h0, .inr (13, f0_h0)), (h0_text, .inr (14, f0_h0_text)), (h0_text_all, .inl (tA 0, h0_text_all_n, .inl h0_text_all_c))]) (wr := []) hP hD hS hA [0, 1, 2] [] rfl rfl (by decide) (by decide) (va_runV (As := [.int (l1 + 1)]) (rest := []) ⟨hx, hb, hml, hown, hg⟩ (m_MM_letter l D tA _ h0 h0_text h0_text_all f0_h0 f0_h0_text h0_text_all_n (l1 + 1) h0_text_size h0_text_all_c q_h0_text q_h0_text_all q_h0_text_size o1 h1) (zV 1 hg k10_226 k10_228 ks_MM_letter k1_14 k10_229 rfl rfl (by decide +kernel) ⟨(Nat.le_of_ble_eq_true rfl), (Nat.le_of_ble_eq_true rfl)⟩) (zPreV hh hK hP hD [0, 1, 2] (by decide) rfl (ci := 13) rfl 0 rfl) rfl rfl hl.1 rfl (lv_room (Nat.le_of_ble_eq_true rfl)) d_MM_signKind_4 ⟨(Nat.le_of_ble_eq_true rfl), (Nat.le_of_ble_eq_true rfl)⟩) (fun r1 u1 H1 locs1 e1 hP1 hD1 hS1 => ?_)
  clear hP hD hS
  refine W.cs (cells' := 0) (slots' := 0) rfl rfl ?_
  have x1 := e1
  rw [x1]
  replace hP1 : va_P D vwCl [(h0, .inr (13, f0_h0)), (h0_text, .inr (14, f0_h0_text)), (h0_text_all, .inl (tA 0, h0_text_all_n, .inl h0_text_all_c))] _ := hP1
  replace hD1 : va_D A [(h0, .inr (13, f0_h0)), (h0_text, .inr (14, f0_h0_text)), (h0_text_all, .inl (tA 0, h0_text_all_n, .inl h0_text_all_c))] := hD1
  refine lv_istore_n (lv' := [(2, .int o1), (0, .ref h0), (1, .int l1)]) hx hb d_MM_signKind_7 rfl hl (by decide) rfl (fun ls hl => ?_)
  refine lv_aload_n hx hb d_MM_signKind_8 rfl (lv_at hl 1 rfl) ?_
  refine lv_iload_n hx hb d_MM_signKind_9 rfl (lv_at hl 2 rfl) ?_
  obtain ⟨o2, h2, hF⟩ := bsome hF
  refine zCalli (wc := [(h0, .inr (13, f0_h0)), (h0_text, .inr (14, f0_h0_text)), (h0_text_all, .inl (tA 0, h0_text_all_n, .inl h0_text_all_c))]) (wr := []) hP1 hD1 hS1 hA [0, 1, 2] [] rfl rfl (by decide) (by decide) (va_runV (As := [.int l1]) (rest := []) ⟨hx, hb, hml, hown, hg⟩ (m_MM_letter l D tA _ h0 h0_text h0_text_all f0_h0 f0_h0_text h0_text_all_n l1 h0_text_size h0_text_all_c q_h0_text q_h0_text_all q_h0_text_size o2 h2) (zV 1 hg k10_226 k10_228 ks_MM_letter k1_14 k10_229 rfl rfl (by decide +kernel) ⟨(Nat.le_of_ble_eq_true rfl), (Nat.le_of_ble_eq_true rfl)⟩) (zPreV hh hK hP1 hD1 [0, 1, 2] (by decide) rfl (ci := 13) rfl 0 rfl) rfl rfl hl.1 rfl (lv_room (Nat.le_of_ble_eq_true rfl)) d_MM_signKind_10 ⟨(Nat.le_of_ble_eq_true rfl), (Nat.le_of_ble_eq_true rfl)⟩) (fun r2 u2 H2 locs2 e2 hP2 hD2 hS2 => ?_)
  clear hP1 hD1 hS1
  refine W.cs (cells' := 0) (slots' := 0) rfl rfl ?_
  have x2 := e2
  rw [x2]
  replace hP2 : va_P D vwCl [(h0, .inr (13, f0_h0)), (h0_text, .inr (14, f0_h0_text)), (h0_text_all, .inl (tA 0, h0_text_all_n, .inl h0_text_all_c))] _ := hP2
  replace hD2 : va_D A [(h0, .inr (13, f0_h0)), (h0_text, .inr (14, f0_h0_text)), (h0_text_all, .inl (tA 0, h0_text_all_n, .inl h0_text_all_c))] := hD2
  by_cases w13_33 : (o2 : Int32).toInt = 33
  · replace hF := ifp w13_33 hF
    refine lv_lookup (off := 191) (tgt := 204) hx hb d_MM_signKind_13 (by decide +kernel) (by rw [w13_33]; decide) (by decide) ?_
    refine lv_iload_n hx hb d_MM_signKind_204 rfl (lv_at hl 0 rfl) ?_
    refine lv_bipush (v := 61) hx hb d_MM_signKind_205 (by decide) ?_
    refine lv_icmp_ne (tgt := 215) hx hb d_MM_signKind_207 (by decide) (fun c9 => ?_) (fun c9 => ?_)
    · replace hF := ifp c9 hF
      refine lv_bipush (v := 31) hx hb d_MM_signKind_215 (by decide) ?_
      exact ih3 o1 31   _ _ _ hF q_h0_text q_h0_text_all q_h0_text_size hP2 hD2 hS2 (lv_sub hl [1, 2, 0] rfl)
    · replace hF := ifn (fun h9 => h9 c9) hF
      refine lv_bipush (v := 18) hx hb d_MM_signKind_210 (by decide) ?_
      refine lv_goto (tgt := 217) hx hb d_MM_signKind_212 (by decide) ?_
      exact ih3 o1 18   _ _ _ hF q_h0_text q_h0_text_all q_h0_text_size hP2 hD2 hS2 (lv_sub hl [1, 2, 0] rfl)
  · replace hF := ifn w13_33 hF
    by_cases w13_37 : (o2 : Int32).toInt = 37
    · replace hF := ifp w13_37 hF
      refine lv_lookup (off := 245) (tgt := 258) hx hb d_MM_signKind_13 (by decide +kernel) (by rw [w13_37]; decide) (by decide) ?_
      refine lv_bipush (v := 28) hx hb d_MM_signKind_258 (by decide) ?_
      replace hF := Option.some.inj hF
      subst hF
      exact zZret (post := (fun (r9 : Int32) (u9 : Unit) => r9 = 28)) (W1 := (fun (u9 : Unit) => [(h0, .inr (13, f0_h0)), (h0_text, .inr (14, f0_h0_text)), (h0_text_all, .inl (tA 0, h0_text_all_n, .inl h0_text_all_c))])) (v := 28) hx hb hr rfl hlocks hP2 hD2 hS2 () rfl rfl d_MM_signKind_260
    · replace hF := ifn w13_37 hF
      by_cases w13_38 : (o2 : Int32).toInt = 38
      · replace hF := ifp w13_38 hF
        refine lv_lookup (off := 248) (tgt := 261) hx hb d_MM_signKind_13 (by decide +kernel) (by rw [w13_38]; decide) (by decide) ?_
        refine lv_bipush (v := 29) hx hb d_MM_signKind_261 (by decide) ?_
        replace hF := Option.some.inj hF
        subst hF
        exact zZret (post := (fun (r9 : Int32) (u9 : Unit) => r9 = 29)) (W1 := (fun (u9 : Unit) => [(h0, .inr (13, f0_h0)), (h0_text, .inr (14, f0_h0_text)), (h0_text_all, .inl (tA 0, h0_text_all_n, .inl h0_text_all_c))])) (v := 29) hx hb hr rfl hlocks hP2 hD2 hS2 () rfl rfl d_MM_signKind_263
      · replace hF := ifn w13_38 hF
        by_cases w13_39 : (o2 : Int32).toInt = 39
        · replace hF := ifp w13_39 hF
          refine lv_lookup (off := 272) (tgt := 285) hx hb d_MM_signKind_13 (by decide +kernel) (by rw [w13_39]; decide) (by decide) ?_
          refine lv_bipush (v := 38) hx hb d_MM_signKind_285 (by decide) ?_
          replace hF := Option.some.inj hF
          subst hF
          exact zZret (post := (fun (r9 : Int32) (u9 : Unit) => r9 = 38)) (W1 := (fun (u9 : Unit) => [(h0, .inr (13, f0_h0)), (h0_text, .inr (14, f0_h0_text)), (h0_text_all, .inl (tA 0, h0_text_all_n, .inl h0_text_all_c))])) (v := 38) hx hb hr rfl hlocks hP2 hD2 hS2 () rfl rfl d_MM_signKind_287
        · replace hF := ifn w13_39 hF
          by_cases w13_40 : (o2 : Int32).toInt = 40
          · replace hF := ifp w13_40 hF
            refine lv_lookup (off := 266) (tgt := 279) hx hb d_MM_signKind_13 (by decide +kernel) (by rw [w13_40]; decide) (by decide) ?_
            refine lv_bipush (v := 36) hx hb d_MM_signKind_279 (by decide) ?_
            replace hF := Option.some.inj hF
            subst hF
            exact zZret (post := (fun (r9 : Int32) (u9 : Unit) => r9 = 36)) (W1 := (fun (u9 : Unit) => [(h0, .inr (13, f0_h0)), (h0_text, .inr (14, f0_h0_text)), (h0_text_all, .inl (tA 0, h0_text_all_n, .inl h0_text_all_c))])) (v := 36) hx hb hr rfl hlocks hP2 hD2 hS2 () rfl rfl d_MM_signKind_281
          · replace hF := ifn w13_40 hF
            by_cases w13_41 : (o2 : Int32).toInt = 41
            · replace hF := ifp w13_41 hF
              refine lv_lookup (off := 269) (tgt := 282) hx hb d_MM_signKind_13 (by decide +kernel) (by rw [w13_41]; decide) (by decide) ?_
              refine lv_bipush (v := 37) hx hb d_MM_signKind_282 (by decide) ?_
              replace hF := Option.some.inj hF
              subst hF
              exact zZret (post := (fun (r9 : Int32) (u9 : Unit) => r9 = 37)) (W1 := (fun (u9 : Unit) => [(h0, .inr (13, f0_h0)), (h0_text, .inr (14, f0_h0_text)), (h0_text_all, .inl (tA 0, h0_text_all_n, .inl h0_text_all_c))])) (v := 37) hx hb hr rfl hlocks hP2 hD2 hS2 () rfl rfl d_MM_signKind_284
            · replace hF := ifn w13_41 hF
              by_cases w13_42 : (o2 : Int32).toInt = 42
              · replace hF := ifp w13_42 hF
                refine lv_lookup (off := 239) (tgt := 252) hx hb d_MM_signKind_13 (by decide +kernel) (by rw [w13_42]; decide) (by decide) ?_
                refine lv_bipush (v := 26) hx hb d_MM_signKind_252 (by decide) ?_
                replace hF := Option.some.inj hF
                subst hF
                exact zZret (post := (fun (r9 : Int32) (u9 : Unit) => r9 = 26)) (W1 := (fun (u9 : Unit) => [(h0, .inr (13, f0_h0)), (h0_text, .inr (14, f0_h0_text)), (h0_text_all, .inl (tA 0, h0_text_all_n, .inl h0_text_all_c))])) (v := 26) hx hb hr rfl hlocks hP2 hD2 hS2 () rfl rfl d_MM_signKind_254
              · replace hF := ifn w13_42 hF
                by_cases w13_43 : (o2 : Int32).toInt = 43
                · replace hF := ifp w13_43 hF
                  refine lv_lookup (off := 236) (tgt := 249) hx hb d_MM_signKind_13 (by decide +kernel) (by rw [w13_43]; decide) (by decide) ?_
                  refine lv_bipush (v := 24) hx hb d_MM_signKind_249 (by decide) ?_
                  replace hF := Option.some.inj hF
                  subst hF
                  exact zZret (post := (fun (r9 : Int32) (u9 : Unit) => r9 = 24)) (W1 := (fun (u9 : Unit) => [(h0, .inr (13, f0_h0)), (h0_text, .inr (14, f0_h0_text)), (h0_text_all, .inl (tA 0, h0_text_all_n, .inl h0_text_all_c))])) (v := 24) hx hb hr rfl hlocks hP2 hD2 hS2 () rfl rfl d_MM_signKind_251
                · replace hF := ifn w13_43 hF
                  by_cases w13_44 : (o2 : Int32).toInt = 44
                  · replace hF := ifp w13_44 hF
                    refine lv_lookup (off := 263) (tgt := 276) hx hb d_MM_signKind_13 (by decide +kernel) (by rw [w13_44]; decide) (by decide) ?_
                    refine lv_bipush (v := 35) hx hb d_MM_signKind_276 (by decide) ?_
                    replace hF := Option.some.inj hF
                    subst hF
                    exact zZret (post := (fun (r9 : Int32) (u9 : Unit) => r9 = 35)) (W1 := (fun (u9 : Unit) => [(h0, .inr (13, f0_h0)), (h0_text, .inr (14, f0_h0_text)), (h0_text_all, .inl (tA 0, h0_text_all_n, .inl h0_text_all_c))])) (v := 35) hx hb hr rfl hlocks hP2 hD2 hS2 () rfl rfl d_MM_signKind_278
                  · replace hF := ifn w13_44 hF
                    by_cases w13_45 : (o2 : Int32).toInt = 45
                    · replace hF := ifp w13_45 hF
                      refine lv_lookup (off := 177) (tgt := 190) hx hb d_MM_signKind_13 (by decide +kernel) (by rw [w13_45]; decide) (by decide) ?_
                      refine lv_iload_n hx hb d_MM_signKind_190 rfl (lv_at hl 0 rfl) ?_
                      refine lv_bipush (v := 62) hx hb d_MM_signKind_191 (by decide) ?_
                      refine lv_icmp_ne (tgt := 201) hx hb d_MM_signKind_193 (by decide) (fun c9 => ?_) (fun c9 => ?_)
                      · replace hF := ifp c9 hF
                        refine lv_bipush (v := 25) hx hb d_MM_signKind_201 (by decide) ?_
                        exact ih2 o1 25   _ _ _ hF q_h0_text q_h0_text_all q_h0_text_size hP2 hD2 hS2 (lv_sub hl [1, 2, 0] rfl)
                      · replace hF := ifn (fun h9 => h9 c9) hF
                        refine lv_bipush (v := 17) hx hb d_MM_signKind_196 (by decide) ?_
                        refine lv_goto (tgt := 203) hx hb d_MM_signKind_198 (by decide) ?_
                        exact ih2 o1 17   _ _ _ hF q_h0_text q_h0_text_all q_h0_text_size hP2 hD2 hS2 (lv_sub hl [1, 2, 0] rfl)
                    · replace hF := ifn w13_45 hF
                      by_cases w13_46 : (o2 : Int32).toInt = 46
                      · replace hF := ifp w13_46 hF
                        refine lv_lookup (off := 163) (tgt := 176) hx hb d_MM_signKind_13 (by decide +kernel) (by rw [w13_46]; decide) (by decide) ?_
                        refine lv_iload_n hx hb d_MM_signKind_176 rfl (lv_at hl 0 rfl) ?_
                        refine lv_bipush (v := 46) hx hb d_MM_signKind_177 (by decide) ?_
                        refine lv_icmp_ne (tgt := 187) hx hb d_MM_signKind_179 (by decide) (fun c9 => ?_) (fun c9 => ?_)
                        · replace hF := ifp c9 hF
                          refine lv_bipush (v := 39) hx hb d_MM_signKind_187 (by decide) ?_
                          exact ih1 o1 39   _ _ _ hF q_h0_text q_h0_text_all q_h0_text_size hP2 hD2 hS2 (lv_sub hl [1, 2, 0] rfl)
                        · replace hF := ifn (fun h9 => h9 c9) hF
                          refine lv_bipush (v := 16) hx hb d_MM_signKind_182 (by decide) ?_
                          refine lv_goto (tgt := 189) hx hb d_MM_signKind_184 (by decide) ?_
                          exact ih1 o1 16   _ _ _ hF q_h0_text q_h0_text_all q_h0_text_size hP2 hD2 hS2 (lv_sub hl [1, 2, 0] rfl)
                      · replace hF := ifn w13_46 hF
                        by_cases w13_47 : (o2 : Int32).toInt = 47
                        · replace hF := ifp w13_47 hF
                          refine lv_lookup (off := 242) (tgt := 255) hx hb d_MM_signKind_13 (by decide +kernel) (by rw [w13_47]; decide) (by decide) ?_
                          refine lv_bipush (v := 27) hx hb d_MM_signKind_255 (by decide) ?_
                          replace hF := Option.some.inj hF
                          subst hF
                          exact zZret (post := (fun (r9 : Int32) (u9 : Unit) => r9 = 27)) (W1 := (fun (u9 : Unit) => [(h0, .inr (13, f0_h0)), (h0_text, .inr (14, f0_h0_text)), (h0_text_all, .inl (tA 0, h0_text_all_n, .inl h0_text_all_c))])) (v := 27) hx hb hr rfl hlocks hP2 hD2 hS2 () rfl rfl d_MM_signKind_257
                        · replace hF := ifn w13_47 hF
                          by_cases w13_58 : (o2 : Int32).toInt = 58
                          · replace hF := ifp w13_58 hF
                            refine lv_lookup (off := 257) (tgt := 270) hx hb d_MM_signKind_13 (by decide +kernel) (by rw [w13_58]; decide) (by decide) ?_
                            refine lv_bipush (v := 33) hx hb d_MM_signKind_270 (by decide) ?_
                            replace hF := Option.some.inj hF
                            subst hF
                            exact zZret (post := (fun (r9 : Int32) (u9 : Unit) => r9 = 33)) (W1 := (fun (u9 : Unit) => [(h0, .inr (13, f0_h0)), (h0_text, .inr (14, f0_h0_text)), (h0_text_all, .inl (tA 0, h0_text_all_n, .inl h0_text_all_c))])) (v := 33) hx hb hr rfl hlocks hP2 hD2 hS2 () rfl rfl d_MM_signKind_272
                          · replace hF := ifn w13_58 hF
                            by_cases w13_59 : (o2 : Int32).toInt = 59
                            · replace hF := ifp w13_59 hF
                              refine lv_lookup (off := 260) (tgt := 273) hx hb d_MM_signKind_13 (by decide +kernel) (by rw [w13_59]; decide) (by decide) ?_
                              refine lv_bipush (v := 34) hx hb d_MM_signKind_273 (by decide) ?_
                              replace hF := Option.some.inj hF
                              subst hF
                              exact zZret (post := (fun (r9 : Int32) (u9 : Unit) => r9 = 34)) (W1 := (fun (u9 : Unit) => [(h0, .inr (13, f0_h0)), (h0_text, .inr (14, f0_h0_text)), (h0_text_all, .inl (tA 0, h0_text_all_n, .inl h0_text_all_c))])) (v := 34) hx hb hr rfl hlocks hP2 hD2 hS2 () rfl rfl d_MM_signKind_275
                            · replace hF := ifn w13_59 hF
                              by_cases w13_60 : (o2 : Int32).toInt = 60
                              · replace hF := ifp w13_60 hF
                                refine lv_lookup (off := 205) (tgt := 218) hx hb d_MM_signKind_13 (by decide +kernel) (by rw [w13_60]; decide) (by decide) ?_
                                refine lv_iload_n hx hb d_MM_signKind_218 rfl (lv_at hl 0 rfl) ?_
                                refine lv_bipush (v := 61) hx hb d_MM_signKind_219 (by decide) ?_
                                refine lv_icmp_ne (tgt := 229) hx hb d_MM_signKind_221 (by decide) (fun c9 => ?_) (fun c9 => ?_)
                                · replace hF := ifp c9 hF
                                  refine lv_bipush (v := 21) hx hb d_MM_signKind_229 (by decide) ?_
                                  exact ih4 o1 21   _ _ _ hF q_h0_text q_h0_text_all q_h0_text_size hP2 hD2 hS2 (lv_sub hl [1, 2, 0] rfl)
                                · replace hF := ifn (fun h9 => h9 c9) hF
                                  refine lv_bipush (v := 19) hx hb d_MM_signKind_224 (by decide) ?_
                                  refine lv_goto (tgt := 231) hx hb d_MM_signKind_226 (by decide) ?_
                                  exact ih4 o1 19   _ _ _ hF q_h0_text q_h0_text_all q_h0_text_size hP2 hD2 hS2 (lv_sub hl [1, 2, 0] rfl)
                              · replace hF := ifn w13_60 hF
                                by_cases w13_61 : (o2 : Int32).toInt = 61
                                · replace hF := ifp w13_61 hF
                                  refine lv_lookup (off := 233) (tgt := 246) hx hb d_MM_signKind_13 (by decide +kernel) (by rw [w13_61]; decide) (by decide) ?_
                                  refine lv_bipush (v := 23) hx hb d_MM_signKind_246 (by decide) ?_
                                  replace hF := Option.some.inj hF
                                  subst hF
                                  exact zZret (post := (fun (r9 : Int32) (u9 : Unit) => r9 = 23)) (W1 := (fun (u9 : Unit) => [(h0, .inr (13, f0_h0)), (h0_text, .inr (14, f0_h0_text)), (h0_text_all, .inl (tA 0, h0_text_all_n, .inl h0_text_all_c))])) (v := 23) hx hb hr rfl hlocks hP2 hD2 hS2 () rfl rfl d_MM_signKind_248
                                · replace hF := ifn w13_61 hF
                                  by_cases w13_62 : (o2 : Int32).toInt = 62
                                  · replace hF := ifp w13_62 hF
                                    refine lv_lookup (off := 219) (tgt := 232) hx hb d_MM_signKind_13 (by decide +kernel) (by rw [w13_62]; decide) (by decide) ?_
                                    refine lv_iload_n hx hb d_MM_signKind_232 rfl (lv_at hl 0 rfl) ?_
                                    refine lv_bipush (v := 61) hx hb d_MM_signKind_233 (by decide) ?_
                                    refine lv_icmp_ne (tgt := 243) hx hb d_MM_signKind_235 (by decide) (fun c9 => ?_) (fun c9 => ?_)
                                    · replace hF := ifp c9 hF
                                      refine lv_bipush (v := 22) hx hb d_MM_signKind_243 (by decide) ?_
                                      exact ih5 o1 22   _ _ _ hF q_h0_text q_h0_text_all q_h0_text_size hP2 hD2 hS2 (lv_sub hl [1, 2, 0] rfl)
                                    · replace hF := ifn (fun h9 => h9 c9) hF
                                      refine lv_bipush (v := 20) hx hb d_MM_signKind_238 (by decide) ?_
                                      refine lv_goto (tgt := 245) hx hb d_MM_signKind_240 (by decide) ?_
                                      exact ih5 o1 20   _ _ _ hF q_h0_text q_h0_text_all q_h0_text_size hP2 hD2 hS2 (lv_sub hl [1, 2, 0] rfl)
                                  · replace hF := ifn w13_62 hF
                                    by_cases w13_63 : (o2 : Int32).toInt = 63
                                    · replace hF := ifp w13_63 hF
                                      refine lv_lookup (off := 254) (tgt := 267) hx hb d_MM_signKind_13 (by decide +kernel) (by rw [w13_63]; decide) (by decide) ?_
                                      refine lv_bipush (v := 32) hx hb d_MM_signKind_267 (by decide) ?_
                                      replace hF := Option.some.inj hF
                                      subst hF
                                      exact zZret (post := (fun (r9 : Int32) (u9 : Unit) => r9 = 32)) (W1 := (fun (u9 : Unit) => [(h0, .inr (13, f0_h0)), (h0_text, .inr (14, f0_h0_text)), (h0_text_all, .inl (tA 0, h0_text_all_n, .inl h0_text_all_c))])) (v := 32) hx hb hr rfl hlocks hP2 hD2 hS2 () rfl rfl d_MM_signKind_269
                                    · replace hF := ifn w13_63 hF
                                      by_cases w13_124 : (o2 : Int32).toInt = 124
                                      · replace hF := ifp w13_124 hF
                                        refine lv_lookup (off := 251) (tgt := 264) hx hb d_MM_signKind_13 (by decide +kernel) (by rw [w13_124]; decide) (by decide) ?_
                                        refine lv_bipush (v := 30) hx hb d_MM_signKind_264 (by decide) ?_
                                        replace hF := Option.some.inj hF
                                        subst hF
                                        exact zZret (post := (fun (r9 : Int32) (u9 : Unit) => r9 = 30)) (W1 := (fun (u9 : Unit) => [(h0, .inr (13, f0_h0)), (h0_text, .inr (14, f0_h0_text)), (h0_text_all, .inl (tA 0, h0_text_all_n, .inl h0_text_all_c))])) (v := 30) hx hb hr rfl hlocks hP2 hD2 hS2 () rfl rfl d_MM_signKind_266
                                      · replace hF := ifn w13_124 hF
                                        refine lv_lookup (off := 275) (tgt := 288) hx hb d_MM_signKind_13 (by decide +kernel) (by simp only [Op.lookupswitch.offset_cons, Op.lookupswitch.offset_nil]; rw [if_neg (fun h9 => w13_33 h9.symm), if_neg (fun h9 => w13_37 h9.symm), if_neg (fun h9 => w13_38 h9.symm), if_neg (fun h9 => w13_39 h9.symm), if_neg (fun h9 => w13_40 h9.symm), if_neg (fun h9 => w13_41 h9.symm), if_neg (fun h9 => w13_42 h9.symm), if_neg (fun h9 => w13_43 h9.symm), if_neg (fun h9 => w13_44 h9.symm), if_neg (fun h9 => w13_45 h9.symm), if_neg (fun h9 => w13_46 h9.symm), if_neg (fun h9 => w13_47 h9.symm), if_neg (fun h9 => w13_58 h9.symm), if_neg (fun h9 => w13_59 h9.symm), if_neg (fun h9 => w13_60 h9.symm), if_neg (fun h9 => w13_61 h9.symm), if_neg (fun h9 => w13_62 h9.symm), if_neg (fun h9 => w13_63 h9.symm), if_neg (fun h9 => w13_124 h9.symm)]) (by decide) ?_
                                        refine lv_bipush (v := 39) hx hb d_MM_signKind_288 (by decide) ?_
                                        replace hF := Option.some.inj hF
                                        subst hF
                                        exact zZret (post := (fun (r9 : Int32) (u9 : Unit) => r9 = 39)) (W1 := (fun (u9 : Unit) => [(h0, .inr (13, f0_h0)), (h0_text, .inr (14, f0_h0_text)), (h0_text_all, .inl (tA 0, h0_text_all_n, .inl h0_text_all_c))])) (v := 39) hx hb hr rfl hlocks hP2 hD2 hS2 () rfl rfl d_MM_signKind_290
set_option maxHeartbeats 4000000 in
set_option maxRecDepth 100000 in
theorem b_MM_signKind_1 {p : Program} {l : Launch} {e : Env} {s : State} {m : MethodId} {args : Array Value} {below : List Frame} {meth : Method} {c : Code} {D : va_G} {tA : Nat → ClassId} {A : Nat → Prop} {h0 h0_text h0_text_all : Nat} {f0_h0 f0_h0_text : List Value} {h0_text_all_n : Nat} {l1 : Int32} {h0_text_size : Int32} {h0_text_all_c : Nat → Int32} {out : Int32} (hx : p.tables.exec = Jvm.exec) (hb : c.code = prog_15_method_13_code) (hr : meth.sig.returnType = (Option.some Jvm.ClassFile.FieldType.int)) (hml : c.maxLocals = 3) (hh : zH s) (hg : ∀ w ∈ lw_R, w.before args s = true) (hown : s.vm.findClass "ChanceArenaModel" = some m.cls) (hlocks : meth.locks = false) (hK : va_K D vwCl (zT tA) s) (hA : ∀ q, s.heap.size ≤ q → A q) {n : Nat}  : ∀ (l2 : Int32) (k0 : Int32) (H : Heap) (locs : List Loc) (ls : Array Slot), f_MM_signKind h0_text_all_n l1 h0_text_size h0_text_all_c (n + 1) 1 l2 k0 = some out → f0_h0[2]? = some (.ref h0_text) → f0_h0_text[0]? = some (.ref h0_text_all) → f0_h0_text[1]? = some (.int h0_text_size) → va_P D vwCl [(h0, .inr (13, f0_h0)), (h0_text, .inr (14, f0_h0_text)), (h0_text_all, .inl (tA 0, h0_text_all_n, .inl h0_text_all_c))] H → va_D A [(h0, .inr (13, f0_h0)), (h0_text, .inr (14, f0_h0_text)), (h0_text_all, .inl (tA 0, h0_text_all_n, .inl h0_text_all_c))] → va_S A s.heap H locs → lv_has ls 3 [(0, .ref h0), (1, .int l1), (2, .int l2)] → W p l e { frames := 2, cells := 0, slots := 0, locals := 42 } s m args below meth c H locs 0 0 (MQ below (va_Qi (fun (r9 : Int32) (u9 : Unit) => r9 = out) (zPost D A (fun (u9 : Unit) => [(h0, .inr (13, f0_h0)), (h0_text, .inr (14, f0_h0_text)), (h0_text_all, .inl (tA 0, h0_text_all_n, .inl h0_text_all_c))])) A) args s 0 0 A) (F0 m 189 ls [.int k0]) := by
  intro l2 k0   H locs ls hF q_h0_text q_h0_text_all q_h0_text_size hP hD hS hl
  rw [e_MM_signKind_1] at hF
  replace hF := Option.some.inj hF
  subst hF
  exact zZret (post := (fun (r9 : Int32) (u9 : Unit) => r9 = k0)) (W1 := (fun (u9 : Unit) => [(h0, .inr (13, f0_h0)), (h0_text, .inr (14, f0_h0_text)), (h0_text_all, .inl (tA 0, h0_text_all_n, .inl h0_text_all_c))])) (v := k0) hx hb hr rfl hlocks hP hD hS () rfl rfl d_MM_signKind_189
set_option maxHeartbeats 4000000 in
set_option maxRecDepth 100000 in
theorem b_MM_signKind_2 {p : Program} {l : Launch} {e : Env} {s : State} {m : MethodId} {args : Array Value} {below : List Frame} {meth : Method} {c : Code} {D : va_G} {tA : Nat → ClassId} {A : Nat → Prop} {h0 h0_text h0_text_all : Nat} {f0_h0 f0_h0_text : List Value} {h0_text_all_n : Nat} {l1 : Int32} {h0_text_size : Int32} {h0_text_all_c : Nat → Int32} {out : Int32} (hx : p.tables.exec = Jvm.exec) (hb : c.code = prog_15_method_13_code) (hr : meth.sig.returnType = (Option.some Jvm.ClassFile.FieldType.int)) (hml : c.maxLocals = 3) (hh : zH s) (hg : ∀ w ∈ lw_R, w.before args s = true) (hown : s.vm.findClass "ChanceArenaModel" = some m.cls) (hlocks : meth.locks = false) (hK : va_K D vwCl (zT tA) s) (hA : ∀ q, s.heap.size ≤ q → A q) {n : Nat}  : ∀ (l2 : Int32) (k0 : Int32) (H : Heap) (locs : List Loc) (ls : Array Slot), f_MM_signKind h0_text_all_n l1 h0_text_size h0_text_all_c (n + 1) 2 l2 k0 = some out → f0_h0[2]? = some (.ref h0_text) → f0_h0_text[0]? = some (.ref h0_text_all) → f0_h0_text[1]? = some (.int h0_text_size) → va_P D vwCl [(h0, .inr (13, f0_h0)), (h0_text, .inr (14, f0_h0_text)), (h0_text_all, .inl (tA 0, h0_text_all_n, .inl h0_text_all_c))] H → va_D A [(h0, .inr (13, f0_h0)), (h0_text, .inr (14, f0_h0_text)), (h0_text_all, .inl (tA 0, h0_text_all_n, .inl h0_text_all_c))] → va_S A s.heap H locs → lv_has ls 3 [(0, .ref h0), (1, .int l1), (2, .int l2)] → W p l e { frames := 2, cells := 0, slots := 0, locals := 42 } s m args below meth c H locs 0 0 (MQ below (va_Qi (fun (r9 : Int32) (u9 : Unit) => r9 = out) (zPost D A (fun (u9 : Unit) => [(h0, .inr (13, f0_h0)), (h0_text, .inr (14, f0_h0_text)), (h0_text_all, .inl (tA 0, h0_text_all_n, .inl h0_text_all_c))])) A) args s 0 0 A) (F0 m 203 ls [.int k0]) := by
  intro l2 k0   H locs ls hF q_h0_text q_h0_text_all q_h0_text_size hP hD hS hl
  rw [e_MM_signKind_2] at hF
  replace hF := Option.some.inj hF
  subst hF
  exact zZret (post := (fun (r9 : Int32) (u9 : Unit) => r9 = k0)) (W1 := (fun (u9 : Unit) => [(h0, .inr (13, f0_h0)), (h0_text, .inr (14, f0_h0_text)), (h0_text_all, .inl (tA 0, h0_text_all_n, .inl h0_text_all_c))])) (v := k0) hx hb hr rfl hlocks hP hD hS () rfl rfl d_MM_signKind_203
set_option maxHeartbeats 4000000 in
set_option maxRecDepth 100000 in
theorem b_MM_signKind_3 {p : Program} {l : Launch} {e : Env} {s : State} {m : MethodId} {args : Array Value} {below : List Frame} {meth : Method} {c : Code} {D : va_G} {tA : Nat → ClassId} {A : Nat → Prop} {h0 h0_text h0_text_all : Nat} {f0_h0 f0_h0_text : List Value} {h0_text_all_n : Nat} {l1 : Int32} {h0_text_size : Int32} {h0_text_all_c : Nat → Int32} {out : Int32} (hx : p.tables.exec = Jvm.exec) (hb : c.code = prog_15_method_13_code) (hr : meth.sig.returnType = (Option.some Jvm.ClassFile.FieldType.int)) (hml : c.maxLocals = 3) (hh : zH s) (hg : ∀ w ∈ lw_R, w.before args s = true) (hown : s.vm.findClass "ChanceArenaModel" = some m.cls) (hlocks : meth.locks = false) (hK : va_K D vwCl (zT tA) s) (hA : ∀ q, s.heap.size ≤ q → A q) {n : Nat}  : ∀ (l2 : Int32) (k0 : Int32) (H : Heap) (locs : List Loc) (ls : Array Slot), f_MM_signKind h0_text_all_n l1 h0_text_size h0_text_all_c (n + 1) 3 l2 k0 = some out → f0_h0[2]? = some (.ref h0_text) → f0_h0_text[0]? = some (.ref h0_text_all) → f0_h0_text[1]? = some (.int h0_text_size) → va_P D vwCl [(h0, .inr (13, f0_h0)), (h0_text, .inr (14, f0_h0_text)), (h0_text_all, .inl (tA 0, h0_text_all_n, .inl h0_text_all_c))] H → va_D A [(h0, .inr (13, f0_h0)), (h0_text, .inr (14, f0_h0_text)), (h0_text_all, .inl (tA 0, h0_text_all_n, .inl h0_text_all_c))] → va_S A s.heap H locs → lv_has ls 3 [(0, .ref h0), (1, .int l1), (2, .int l2)] → W p l e { frames := 2, cells := 0, slots := 0, locals := 42 } s m args below meth c H locs 0 0 (MQ below (va_Qi (fun (r9 : Int32) (u9 : Unit) => r9 = out) (zPost D A (fun (u9 : Unit) => [(h0, .inr (13, f0_h0)), (h0_text, .inr (14, f0_h0_text)), (h0_text_all, .inl (tA 0, h0_text_all_n, .inl h0_text_all_c))])) A) args s 0 0 A) (F0 m 217 ls [.int k0]) := by
  intro l2 k0   H locs ls hF q_h0_text q_h0_text_all q_h0_text_size hP hD hS hl
  rw [e_MM_signKind_3] at hF
  replace hF := Option.some.inj hF
  subst hF
  exact zZret (post := (fun (r9 : Int32) (u9 : Unit) => r9 = k0)) (W1 := (fun (u9 : Unit) => [(h0, .inr (13, f0_h0)), (h0_text, .inr (14, f0_h0_text)), (h0_text_all, .inl (tA 0, h0_text_all_n, .inl h0_text_all_c))])) (v := k0) hx hb hr rfl hlocks hP hD hS () rfl rfl d_MM_signKind_217
set_option maxHeartbeats 4000000 in
set_option maxRecDepth 100000 in
theorem b_MM_signKind_4 {p : Program} {l : Launch} {e : Env} {s : State} {m : MethodId} {args : Array Value} {below : List Frame} {meth : Method} {c : Code} {D : va_G} {tA : Nat → ClassId} {A : Nat → Prop} {h0 h0_text h0_text_all : Nat} {f0_h0 f0_h0_text : List Value} {h0_text_all_n : Nat} {l1 : Int32} {h0_text_size : Int32} {h0_text_all_c : Nat → Int32} {out : Int32} (hx : p.tables.exec = Jvm.exec) (hb : c.code = prog_15_method_13_code) (hr : meth.sig.returnType = (Option.some Jvm.ClassFile.FieldType.int)) (hml : c.maxLocals = 3) (hh : zH s) (hg : ∀ w ∈ lw_R, w.before args s = true) (hown : s.vm.findClass "ChanceArenaModel" = some m.cls) (hlocks : meth.locks = false) (hK : va_K D vwCl (zT tA) s) (hA : ∀ q, s.heap.size ≤ q → A q) {n : Nat}  : ∀ (l2 : Int32) (k0 : Int32) (H : Heap) (locs : List Loc) (ls : Array Slot), f_MM_signKind h0_text_all_n l1 h0_text_size h0_text_all_c (n + 1) 4 l2 k0 = some out → f0_h0[2]? = some (.ref h0_text) → f0_h0_text[0]? = some (.ref h0_text_all) → f0_h0_text[1]? = some (.int h0_text_size) → va_P D vwCl [(h0, .inr (13, f0_h0)), (h0_text, .inr (14, f0_h0_text)), (h0_text_all, .inl (tA 0, h0_text_all_n, .inl h0_text_all_c))] H → va_D A [(h0, .inr (13, f0_h0)), (h0_text, .inr (14, f0_h0_text)), (h0_text_all, .inl (tA 0, h0_text_all_n, .inl h0_text_all_c))] → va_S A s.heap H locs → lv_has ls 3 [(0, .ref h0), (1, .int l1), (2, .int l2)] → W p l e { frames := 2, cells := 0, slots := 0, locals := 42 } s m args below meth c H locs 0 0 (MQ below (va_Qi (fun (r9 : Int32) (u9 : Unit) => r9 = out) (zPost D A (fun (u9 : Unit) => [(h0, .inr (13, f0_h0)), (h0_text, .inr (14, f0_h0_text)), (h0_text_all, .inl (tA 0, h0_text_all_n, .inl h0_text_all_c))])) A) args s 0 0 A) (F0 m 231 ls [.int k0]) := by
  intro l2 k0   H locs ls hF q_h0_text q_h0_text_all q_h0_text_size hP hD hS hl
  rw [e_MM_signKind_4] at hF
  replace hF := Option.some.inj hF
  subst hF
  exact zZret (post := (fun (r9 : Int32) (u9 : Unit) => r9 = k0)) (W1 := (fun (u9 : Unit) => [(h0, .inr (13, f0_h0)), (h0_text, .inr (14, f0_h0_text)), (h0_text_all, .inl (tA 0, h0_text_all_n, .inl h0_text_all_c))])) (v := k0) hx hb hr rfl hlocks hP hD hS () rfl rfl d_MM_signKind_231
set_option maxHeartbeats 4000000 in
set_option maxRecDepth 100000 in
theorem b_MM_signKind_5 {p : Program} {l : Launch} {e : Env} {s : State} {m : MethodId} {args : Array Value} {below : List Frame} {meth : Method} {c : Code} {D : va_G} {tA : Nat → ClassId} {A : Nat → Prop} {h0 h0_text h0_text_all : Nat} {f0_h0 f0_h0_text : List Value} {h0_text_all_n : Nat} {l1 : Int32} {h0_text_size : Int32} {h0_text_all_c : Nat → Int32} {out : Int32} (hx : p.tables.exec = Jvm.exec) (hb : c.code = prog_15_method_13_code) (hr : meth.sig.returnType = (Option.some Jvm.ClassFile.FieldType.int)) (hml : c.maxLocals = 3) (hh : zH s) (hg : ∀ w ∈ lw_R, w.before args s = true) (hown : s.vm.findClass "ChanceArenaModel" = some m.cls) (hlocks : meth.locks = false) (hK : va_K D vwCl (zT tA) s) (hA : ∀ q, s.heap.size ≤ q → A q) {n : Nat}  : ∀ (l2 : Int32) (k0 : Int32) (H : Heap) (locs : List Loc) (ls : Array Slot), f_MM_signKind h0_text_all_n l1 h0_text_size h0_text_all_c (n + 1) 5 l2 k0 = some out → f0_h0[2]? = some (.ref h0_text) → f0_h0_text[0]? = some (.ref h0_text_all) → f0_h0_text[1]? = some (.int h0_text_size) → va_P D vwCl [(h0, .inr (13, f0_h0)), (h0_text, .inr (14, f0_h0_text)), (h0_text_all, .inl (tA 0, h0_text_all_n, .inl h0_text_all_c))] H → va_D A [(h0, .inr (13, f0_h0)), (h0_text, .inr (14, f0_h0_text)), (h0_text_all, .inl (tA 0, h0_text_all_n, .inl h0_text_all_c))] → va_S A s.heap H locs → lv_has ls 3 [(0, .ref h0), (1, .int l1), (2, .int l2)] → W p l e { frames := 2, cells := 0, slots := 0, locals := 42 } s m args below meth c H locs 0 0 (MQ below (va_Qi (fun (r9 : Int32) (u9 : Unit) => r9 = out) (zPost D A (fun (u9 : Unit) => [(h0, .inr (13, f0_h0)), (h0_text, .inr (14, f0_h0_text)), (h0_text_all, .inl (tA 0, h0_text_all_n, .inl h0_text_all_c))])) A) args s 0 0 A) (F0 m 245 ls [.int k0]) := by
  intro l2 k0   H locs ls hF q_h0_text q_h0_text_all q_h0_text_size hP hD hS hl
  rw [e_MM_signKind_5] at hF
  replace hF := Option.some.inj hF
  subst hF
  exact zZret (post := (fun (r9 : Int32) (u9 : Unit) => r9 = k0)) (W1 := (fun (u9 : Unit) => [(h0, .inr (13, f0_h0)), (h0_text, .inr (14, f0_h0_text)), (h0_text_all, .inl (tA 0, h0_text_all_n, .inl h0_text_all_c))])) (v := k0) hx hb hr rfl hlocks hP hD hS () rfl rfl d_MM_signKind_245
set_option maxHeartbeats 4000000 in
set_option maxRecDepth 100000 in
theorem a_MM_signKind {p : Program} {l : Launch} {e : Env} {s : State} {m : MethodId} {args : Array Value} {below : List Frame} {meth : Method} {c : Code} {D : va_G} {tA : Nat → ClassId} {A : Nat → Prop} {h0 h0_text h0_text_all : Nat} {f0_h0 f0_h0_text : List Value} {h0_text_all_n : Nat} {l1 : Int32} {h0_text_size : Int32} {h0_text_all_c : Nat → Int32} {out : Int32} (hx : p.tables.exec = Jvm.exec) (hb : c.code = prog_15_method_13_code) (hr : meth.sig.returnType = (Option.some Jvm.ClassFile.FieldType.int)) (hml : c.maxLocals = 3) (hh : zH s) (hg : ∀ w ∈ lw_R, w.before args s = true) (hown : s.vm.findClass "ChanceArenaModel" = some m.cls) (hlocks : meth.locks = false) (hK : va_K D vwCl (zT tA) s) (hA : ∀ q, s.heap.size ≤ q → A q) : ∀ n : Nat, (∀ (l2 : Int32) (k0 : Int32) (H : Heap) (locs : List Loc) (ls : Array Slot), f_MM_signKind h0_text_all_n l1 h0_text_size h0_text_all_c n 0 l2 k0 = some out → f0_h0[2]? = some (.ref h0_text) → f0_h0_text[0]? = some (.ref h0_text_all) → f0_h0_text[1]? = some (.int h0_text_size) → va_P D vwCl [(h0, .inr (13, f0_h0)), (h0_text, .inr (14, f0_h0_text)), (h0_text_all, .inl (tA 0, h0_text_all_n, .inl h0_text_all_c))] H → va_D A [(h0, .inr (13, f0_h0)), (h0_text, .inr (14, f0_h0_text)), (h0_text_all, .inl (tA 0, h0_text_all_n, .inl h0_text_all_c))] → va_S A s.heap H locs → lv_has ls 3 [(0, .ref h0), (1, .int l1)] → W p l e { frames := 2, cells := 0, slots := 0, locals := 42 } s m args below meth c H locs 0 0 (MQ below (va_Qi (fun (r9 : Int32) (u9 : Unit) => r9 = out) (zPost D A (fun (u9 : Unit) => [(h0, .inr (13, f0_h0)), (h0_text, .inr (14, f0_h0_text)), (h0_text_all, .inl (tA 0, h0_text_all_n, .inl h0_text_all_c))])) A) args s 0 0 A) (F0 m 0 ls [])) ∧ (∀ (l2 : Int32) (k0 : Int32) (H : Heap) (locs : List Loc) (ls : Array Slot), f_MM_signKind h0_text_all_n l1 h0_text_size h0_text_all_c n 1 l2 k0 = some out → f0_h0[2]? = some (.ref h0_text) → f0_h0_text[0]? = some (.ref h0_text_all) → f0_h0_text[1]? = some (.int h0_text_size) → va_P D vwCl [(h0, .inr (13, f0_h0)), (h0_text, .inr (14, f0_h0_text)), (h0_text_all, .inl (tA 0, h0_text_all_n, .inl h0_text_all_c))] H → va_D A [(h0, .inr (13, f0_h0)), (h0_text, .inr (14, f0_h0_text)), (h0_text_all, .inl (tA 0, h0_text_all_n, .inl h0_text_all_c))] → va_S A s.heap H locs → lv_has ls 3 [(0, .ref h0), (1, .int l1), (2, .int l2)] → W p l e { frames := 2, cells := 0, slots := 0, locals := 42 } s m args below meth c H locs 0 0 (MQ below (va_Qi (fun (r9 : Int32) (u9 : Unit) => r9 = out) (zPost D A (fun (u9 : Unit) => [(h0, .inr (13, f0_h0)), (h0_text, .inr (14, f0_h0_text)), (h0_text_all, .inl (tA 0, h0_text_all_n, .inl h0_text_all_c))])) A) args s 0 0 A) (F0 m 189 ls [.int k0])) ∧ (∀ (l2 : Int32) (k0 : Int32) (H : Heap) (locs : List Loc) (ls : Array Slot), f_MM_signKind h0_text_all_n l1 h0_text_size h0_text_all_c n 2 l2 k0 = some out → f0_h0[2]? = some (.ref h0_text) → f0_h0_text[0]? = some (.ref h0_text_all) → f0_h0_text[1]? = some (.int h0_text_size) → va_P D vwCl [(h0, .inr (13, f0_h0)), (h0_text, .inr (14, f0_h0_text)), (h0_text_all, .inl (tA 0, h0_text_all_n, .inl h0_text_all_c))] H → va_D A [(h0, .inr (13, f0_h0)), (h0_text, .inr (14, f0_h0_text)), (h0_text_all, .inl (tA 0, h0_text_all_n, .inl h0_text_all_c))] → va_S A s.heap H locs → lv_has ls 3 [(0, .ref h0), (1, .int l1), (2, .int l2)] → W p l e { frames := 2, cells := 0, slots := 0, locals := 42 } s m args below meth c H locs 0 0 (MQ below (va_Qi (fun (r9 : Int32) (u9 : Unit) => r9 = out) (zPost D A (fun (u9 : Unit) => [(h0, .inr (13, f0_h0)), (h0_text, .inr (14, f0_h0_text)), (h0_text_all, .inl (tA 0, h0_text_all_n, .inl h0_text_all_c))])) A) args s 0 0 A) (F0 m 203 ls [.int k0])) ∧ (∀ (l2 : Int32) (k0 : Int32) (H : Heap) (locs : List Loc) (ls : Array Slot), f_MM_signKind h0_text_all_n l1 h0_text_size h0_text_all_c n 3 l2 k0 = some out → f0_h0[2]? = some (.ref h0_text) → f0_h0_text[0]? = some (.ref h0_text_all) → f0_h0_text[1]? = some (.int h0_text_size) → va_P D vwCl [(h0, .inr (13, f0_h0)), (h0_text, .inr (14, f0_h0_text)), (h0_text_all, .inl (tA 0, h0_text_all_n, .inl h0_text_all_c))] H → va_D A [(h0, .inr (13, f0_h0)), (h0_text, .inr (14, f0_h0_text)), (h0_text_all, .inl (tA 0, h0_text_all_n, .inl h0_text_all_c))] → va_S A s.heap H locs → lv_has ls 3 [(0, .ref h0), (1, .int l1), (2, .int l2)] → W p l e { frames := 2, cells := 0, slots := 0, locals := 42 } s m args below meth c H locs 0 0 (MQ below (va_Qi (fun (r9 : Int32) (u9 : Unit) => r9 = out) (zPost D A (fun (u9 : Unit) => [(h0, .inr (13, f0_h0)), (h0_text, .inr (14, f0_h0_text)), (h0_text_all, .inl (tA 0, h0_text_all_n, .inl h0_text_all_c))])) A) args s 0 0 A) (F0 m 217 ls [.int k0])) ∧ (∀ (l2 : Int32) (k0 : Int32) (H : Heap) (locs : List Loc) (ls : Array Slot), f_MM_signKind h0_text_all_n l1 h0_text_size h0_text_all_c n 4 l2 k0 = some out → f0_h0[2]? = some (.ref h0_text) → f0_h0_text[0]? = some (.ref h0_text_all) → f0_h0_text[1]? = some (.int h0_text_size) → va_P D vwCl [(h0, .inr (13, f0_h0)), (h0_text, .inr (14, f0_h0_text)), (h0_text_all, .inl (tA 0, h0_text_all_n, .inl h0_text_all_c))] H → va_D A [(h0, .inr (13, f0_h0)), (h0_text, .inr (14, f0_h0_text)), (h0_text_all, .inl (tA 0, h0_text_all_n, .inl h0_text_all_c))] → va_S A s.heap H locs → lv_has ls 3 [(0, .ref h0), (1, .int l1), (2, .int l2)] → W p l e { frames := 2, cells := 0, slots := 0, locals := 42 } s m args below meth c H locs 0 0 (MQ below (va_Qi (fun (r9 : Int32) (u9 : Unit) => r9 = out) (zPost D A (fun (u9 : Unit) => [(h0, .inr (13, f0_h0)), (h0_text, .inr (14, f0_h0_text)), (h0_text_all, .inl (tA 0, h0_text_all_n, .inl h0_text_all_c))])) A) args s 0 0 A) (F0 m 231 ls [.int k0])) ∧ (∀ (l2 : Int32) (k0 : Int32) (H : Heap) (locs : List Loc) (ls : Array Slot), f_MM_signKind h0_text_all_n l1 h0_text_size h0_text_all_c n 5 l2 k0 = some out → f0_h0[2]? = some (.ref h0_text) → f0_h0_text[0]? = some (.ref h0_text_all) → f0_h0_text[1]? = some (.int h0_text_size) → va_P D vwCl [(h0, .inr (13, f0_h0)), (h0_text, .inr (14, f0_h0_text)), (h0_text_all, .inl (tA 0, h0_text_all_n, .inl h0_text_all_c))] H → va_D A [(h0, .inr (13, f0_h0)), (h0_text, .inr (14, f0_h0_text)), (h0_text_all, .inl (tA 0, h0_text_all_n, .inl h0_text_all_c))] → va_S A s.heap H locs → lv_has ls 3 [(0, .ref h0), (1, .int l1), (2, .int l2)] → W p l e { frames := 2, cells := 0, slots := 0, locals := 42 } s m args below meth c H locs 0 0 (MQ below (va_Qi (fun (r9 : Int32) (u9 : Unit) => r9 = out) (zPost D A (fun (u9 : Unit) => [(h0, .inr (13, f0_h0)), (h0_text, .inr (14, f0_h0_text)), (h0_text_all, .inl (tA 0, h0_text_all_n, .inl h0_text_all_c))])) A) args s 0 0 A) (F0 m 245 ls [.int k0])) := by
  intro n
  induction n with
  | zero => exact ⟨(fun _ _ _ _ _ hF => by rw [z_MM_signKind] at hF; cases hF), (fun _ _ _ _ _ hF => by rw [z_MM_signKind] at hF; cases hF), (fun _ _ _ _ _ hF => by rw [z_MM_signKind] at hF; cases hF), (fun _ _ _ _ _ hF => by rw [z_MM_signKind] at hF; cases hF), (fun _ _ _ _ _ hF => by rw [z_MM_signKind] at hF; cases hF), (fun _ _ _ _ _ hF => by rw [z_MM_signKind] at hF; cases hF)⟩
  | succ n ih =>
    obtain ⟨i0, i1, i2, i3, i4, i5⟩ := ih
    exact ⟨b_MM_signKind_0 hx hb hr hml hh hg hown hlocks hK hA i1 i2 i3 i4 i5, b_MM_signKind_1 hx hb hr hml hh hg hown hlocks hK hA , b_MM_signKind_2 hx hb hr hml hh hg hown hlocks hK hA , b_MM_signKind_3 hx hb hr hml hh hg hown hlocks hK hA , b_MM_signKind_4 hx hb hr hml hh hg hown hlocks hK hA , b_MM_signKind_5 hx hb hr hml hh hg hown hlocks hK hA ⟩
set_option maxHeartbeats 4000000 in
set_option maxRecDepth 100000 in
theorem m_MM_signKind (l : Launch) (D : va_G) (tA : Nat → ClassId) (sz : Nat) (h0 h0_text h0_text_all : Nat) (f0_h0 f0_h0_text : List Value) (h0_text_all_n : Nat) (l1 : Int32) (h0_text_size : Int32) (h0_text_all_c : Nat → Int32) (q_h0_text : f0_h0[2]? = some (.ref h0_text)) (q_h0_text_all : f0_h0_text[0]? = some (.ref h0_text_all)) (q_h0_text_size : f0_h0_text[1]? = some (.int h0_text_size)) (n : Nat) (out : Int32) (hF : f_MM_signKind h0_text_all_n l1 h0_text_size h0_text_all_c n 0 0 0 = some out) : zMi l ({ cls := "ChanceArenaModel", name := "signKind", desc := "(I)I" } : Jvm.MethodName) (zW (Jvm.Cond.code ({ cls := "ChanceArenaModel", name := "signKind", desc := "(I)I" } : Jvm.MethodName) prog_15_method_13_code (3 : Nat) (Option.some Jvm.ClassFile.FieldType.int))) { frames := 2, cells := 0, slots := 0, locals := 42 } [.ref h0, .int l1] D tA [(h0, .inr (13, f0_h0)), (h0_text, .inr (14, f0_h0_text)), (h0_text_all, .inl (tA 0, h0_text_all_n, .inl h0_text_all_c))] sz (fun (r9 : Int32) (u9 : Unit) => r9 = out) (fun (u9 : Unit) => [(h0, .inr (13, f0_h0)), (h0_text, .inr (14, f0_h0_text)), (h0_text_all, .inl (tA 0, h0_text_all_n, .inl h0_text_all_c))]) 0 0 := by
  refine zOpen (l := l) (y := ({ cls := "ChanceArenaModel", name := "signKind", desc := "(I)I" } : Jvm.MethodName)) (ws := zW (Jvm.Cond.code ({ cls := "ChanceArenaModel", name := "signKind", desc := "(I)I" } : Jvm.MethodName) prog_15_method_13_code (3 : Nat) (Option.some Jvm.ClassFile.FieldType.int))) (rm := { frames := 2, cells := 0, slots := 0, locals := 42 }) (av := [.ref h0, .int l1]) (D := D) (tA := tA) (W0 := [(h0, .inr (13, f0_h0)), (h0_text, .inr (14, f0_h0_text)), (h0_text_all, .inl (tA 0, h0_text_all_n, .inl h0_text_all_c))]) (Wm := [(h0, .inr (13, f0_h0)), (h0_text, .inr (14, f0_h0_text)), (h0_text_all, .inl (tA 0, h0_text_all_n, .inl h0_text_all_c))]) (sz := sz) (mc := 0) (ms := 0) (fun A => va_Qi (fun (r9 : Int32) (u9 : Unit) => r9 = out) (zPost D A (fun (u9 : Unit) => [(h0, .inr (13, f0_h0)), (h0_text, .inr (14, f0_h0_text)), (h0_text_all, .inl (tA 0, h0_text_all_n, .inl h0_text_all_c))])) A) (lv := [(0, .ref h0), (1, .int l1)]) (by decide) rfl (Nat.le_of_ble_eq_true rfl) rfl ?_
  intro p e s m below meth c A ls hx hb hr hml hh hg hown hlocks hnm hK hA hP hD0 hAw hS hl
  have hD := zD hD0 hAw
  exact (a_MM_signKind hx hb hr hml hh hg hown hlocks hK hA n).1 0 0   _ _ _ hF q_h0_text q_h0_text_all q_h0_text_size hP hD hS hl
def f_MM_level (h0_levels : Int32) : Option (Int32 × Int32) := if (40 : Int32) < (h0_levels + 1) then some (0, (h0_levels + 1)) else some (1, (h0_levels + 1))
set_option maxHeartbeats 4000000 in
set_option maxRecDepth 100000 in
theorem b_MM_level_0 {p : Program} {l : Launch} {e : Env} {s : State} {m : MethodId} {args : Array Value} {below : List Frame} {meth : Method} {c : Code} {D : va_G} {tA : Nat → ClassId} {A : Nat → Prop} {h0 : Nat} {f0_h0 : List Value} {h0_levels : Int32} {out : Int32 × Int32} (hx : p.tables.exec = Jvm.exec) (hb : c.code = prog_15_method_17_code) (hr : meth.sig.returnType = (Option.some Jvm.ClassFile.FieldType.boolean)) (hml : c.maxLocals = 1) (hh : zH s) (hg : ∀ w ∈ lw_R, w.before args s = true) (hown : s.vm.findClass "ChanceArenaModel" = some m.cls) (hlocks : meth.locks = false) (hK : va_K D vwCl (zT tA) s) (hA : ∀ q, s.heap.size ≤ q → A q)  : ∀ (f_h0 : List Value) (H : Heap) (locs : List Loc) (ls : Array Slot), f_MM_level h0_levels = some out → f_h0[7]? = some (.int h0_levels) → Fr [7] f0_h0 f_h0 → va_P D vwCl [(h0, .inr (13, f_h0))] H → va_D A [(h0, .inr (13, f_h0))] → va_S A s.heap H locs → lv_has ls 1 [(0, .ref h0)] → W p l e { frames := 0, cells := 0, slots := 0, locals := 0 } s m args below meth c H locs 0 0 (MQ below (va_Qi (fun (r9 : Int32) (u9 : List Value) => r9 = out.1 ∧ Fr [7] f0_h0 u9 ∧ u9[7]? = some (.int out.2)) (zPost D A (fun (u9 : List Value) => [(h0, .inr (13, u9))])) A) args s 0 0 A) (F0 m 0 ls []) := by
  intro   f_h0 H locs ls hF q_h0_levels r_h0 hP hD hS hl
  replace hF : ((if (40 : Int32) < (h0_levels + 1) then some (0, (h0_levels + 1)) else some (1, (h0_levels + 1))) : Option (Int32 × Int32)) = some out := hF
  refine lv_aload_n hx hb d_MM_level_0 rfl (lv_at hl 0 rfl) ?_
  refine lv_aload_n hx hb d_MM_level_1 rfl (lv_at hl 0 rfl) ?_
  refine va_get (D := D) (ci := 13) (v := .int h0_levels) (C := R_MM) (T := T_MM) (N := 49) hx hb hg i_MM hown hK hP 0 rfl rfl 7 (by decide) (hg _ k10_53) (fun _ h9 => h9) q_h0_levels d_MM_level_2 ?_
  refine lv_iconst (v := 1) hx hb d_MM_level_5 (by decide) ?_
  refine lv_iadd hx hb d_MM_level_6 ?_
  refine va_put (D := D) (ci := 13) (v := .int (h0_levels + 1)) (ty := .int) (C := R_MM) (T := T_MM) (N := 49) hx hb hg i_MM t_MM o_MM n_MM hown hK hP hD hS 0 rfl rfl 7 (by decide) (hg _ k10_53) (fun _ h9 => h9) rfl (by decide +kernel) rfl rfl (zLen q_h0_levels) d_MM_level_7 (fun H1 locs1 hP1 hD1 hS1 => ?_)
  clear hP hD hS
  replace hP1 : va_P D vwCl [(h0, .inr (13, f_h0.set 7 (.int (h0_levels + 1))))] _ := hP1
  replace hD1 : va_D A [(h0, .inr (13, f_h0.set 7 (.int (h0_levels + 1))))] := hD1
  refine lv_aload_n hx hb d_MM_level_10 rfl (lv_at hl 0 rfl) ?_
  refine va_get (D := D) (ci := 13) (v := .int (h0_levels + 1)) (C := R_MM) (T := T_MM) (N := 49) hx hb hg i_MM hown hK hP1 0 rfl rfl 7 (by decide) (hg _ k10_53) (fun _ h9 => h9) (zSetS q_h0_levels) d_MM_level_11 ?_
  refine lv_bipush (v := 40) hx hb d_MM_level_14 (by decide) ?_
  refine lv_icmp_gt (tgt := 23) hx hb d_MM_level_16 (by decide) (fun c9 => ?_) (fun c9 => ?_)
  · replace hF := ifp c9 hF
    refine lv_iconst (v := 0) hx hb d_MM_level_23 (by decide) ?_
    replace hF := Option.some.inj hF
    subst hF
    exact zZret (post := (fun (r9 : Int32) (u9 : List Value) => r9 = (0, (h0_levels + 1)).1 ∧ Fr [7] f0_h0 u9 ∧ u9[7]? = some (.int ((0, (h0_levels + 1)).2)))) (W1 := (fun (u9 : List Value) => [(h0, .inr (13, u9))])) (v := 0) hx hb hr rfl hlocks hP1 hD1 hS1 (f_h0.set 7 (.int (h0_levels + 1))) ⟨rfl, (Fr.set r_h0 (by decide)), (zSetS q_h0_levels)⟩ rfl d_MM_level_24
  · replace hF := ifn c9 hF
    refine lv_iconst (v := 1) hx hb d_MM_level_19 (by decide) ?_
    refine lv_goto (tgt := 24) hx hb d_MM_level_20 (by decide) ?_
    replace hF := Option.some.inj hF
    subst hF
    exact zZret (post := (fun (r9 : Int32) (u9 : List Value) => r9 = (1, (h0_levels + 1)).1 ∧ Fr [7] f0_h0 u9 ∧ u9[7]? = some (.int ((1, (h0_levels + 1)).2)))) (W1 := (fun (u9 : List Value) => [(h0, .inr (13, u9))])) (v := 1) hx hb hr rfl hlocks hP1 hD1 hS1 (f_h0.set 7 (.int (h0_levels + 1))) ⟨rfl, (Fr.set r_h0 (by decide)), (zSetS q_h0_levels)⟩ rfl d_MM_level_24
set_option maxHeartbeats 4000000 in
set_option maxRecDepth 100000 in
theorem m_MM_level (l : Launch) (D : va_G) (tA : Nat → ClassId) (sz : Nat) (h0 : Nat) (f0_h0 : List Value) (h0_levels : Int32) (q_h0_levels : f0_h0[7]? = some (.int h0_levels)) (out : Int32 × Int32) (hF : f_MM_level h0_levels = some out) : zMi l ({ cls := "ChanceArenaModel", name := "level", desc := "()Z" } : Jvm.MethodName) (zW (Jvm.Cond.code ({ cls := "ChanceArenaModel", name := "level", desc := "()Z" } : Jvm.MethodName) prog_15_method_17_code (1 : Nat) (Option.some Jvm.ClassFile.FieldType.boolean))) { frames := 0, cells := 0, slots := 0, locals := 0 } [.ref h0] D tA [(h0, .inr (13, f0_h0))] sz (fun (r9 : Int32) (u9 : List Value) => r9 = out.1 ∧ Fr [7] f0_h0 u9 ∧ u9[7]? = some (.int out.2)) (fun (u9 : List Value) => [(h0, .inr (13, u9))]) 0 0 := by
  refine zOpen (l := l) (y := ({ cls := "ChanceArenaModel", name := "level", desc := "()Z" } : Jvm.MethodName)) (ws := zW (Jvm.Cond.code ({ cls := "ChanceArenaModel", name := "level", desc := "()Z" } : Jvm.MethodName) prog_15_method_17_code (1 : Nat) (Option.some Jvm.ClassFile.FieldType.boolean))) (rm := { frames := 0, cells := 0, slots := 0, locals := 0 }) (av := [.ref h0]) (D := D) (tA := tA) (W0 := [(h0, .inr (13, f0_h0))]) (Wm := [(h0, .inr (13, f0_h0))]) (sz := sz) (mc := 0) (ms := 0) (fun A => va_Qi (fun (r9 : Int32) (u9 : List Value) => r9 = out.1 ∧ Fr [7] f0_h0 u9 ∧ u9[7]? = some (.int out.2)) (zPost D A (fun (u9 : List Value) => [(h0, .inr (13, u9))])) A) (lv := [(0, .ref h0)]) (by decide) rfl (Nat.le_of_ble_eq_true rfl) rfl ?_
  intro p e s m below meth c A ls hx hb hr hml hh hg hown hlocks hnm hK hA hP hD0 hAw hS hl
  have hD := zD hD0 hAw
  exact b_MM_level_0 hx hb hr hml hh hg hown hlocks hK hA   f0_h0 _ _ _ hF q_h0_levels Fr.rfl hP hD hS hl
def f_MM_isComparison (l0 : Int32) : Option (Int32) := if (l0 : Int32) = 23 then some (1) else if (l0 : Int32) = 18 then some (1) else if (l0 : Int32) = 21 then some (1) else if (l0 : Int32) = 19 then some (1) else if (l0 : Int32) = 22 then some (1) else if ¬ (l0 : Int32) = 20 then some (0) else some (1)
set_option maxHeartbeats 4000000 in
set_option maxRecDepth 100000 in
theorem b_MM_isComparison_0 {p : Program} {l : Launch} {e : Env} {s : State} {m : MethodId} {args : Array Value} {below : List Frame} {meth : Method} {c : Code} {D : va_G} {tA : Nat → ClassId} {A : Nat → Prop} {l0 : Int32} {out : Int32} (hx : p.tables.exec = Jvm.exec) (hb : c.code = prog_15_method_18_code) (hr : meth.sig.returnType = (Option.some Jvm.ClassFile.FieldType.boolean)) (hml : c.maxLocals = 1) (hh : zH s) (hg : ∀ w ∈ lw_R, w.before args s = true) (hown : s.vm.findClass "ChanceArenaModel" = some m.cls) (hlocks : meth.locks = false) (hK : va_K D vwCl (zT tA) s) (hA : ∀ q, s.heap.size ≤ q → A q)  : ∀ (H : Heap) (locs : List Loc) (ls : Array Slot), f_MM_isComparison l0 = some out → va_P D vwCl [] H → va_D A [] → va_S A s.heap H locs → lv_has ls 1 [(0, .int l0)] → W p l e { frames := 0, cells := 0, slots := 0, locals := 0 } s m args below meth c H locs 0 0 (MQ below (va_Qi (fun (r9 : Int32) (u9 : Unit) => r9 = out) (zPost D A (fun (u9 : Unit) => [])) A) args s 0 0 A) (F0 m 0 ls []) := by
  intro    H locs ls hF  hP hD hS hl
  replace hF : ((if (l0 : Int32) = 23 then some (1) else if (l0 : Int32) = 18 then some (1) else if (l0 : Int32) = 21 then some (1) else if (l0 : Int32) = 19 then some (1) else if (l0 : Int32) = 22 then some (1) else if ¬ (l0 : Int32) = 20 then some (0) else some (1)) : Option (Int32)) = some out := hF
  refine lv_iload_n hx hb d_MM_isComparison_0 rfl (lv_at hl 0 rfl) ?_
  refine lv_bipush (v := 23) hx hb d_MM_isComparison_1 (by decide) ?_
  refine lv_icmp_eq (tgt := 36) hx hb d_MM_isComparison_3 (by decide) (fun c9 => ?_) (fun c9 => ?_)
  · replace hF := ifp c9 hF
    refine lv_iconst (v := 1) hx hb d_MM_isComparison_36 (by decide) ?_
    refine lv_goto (tgt := 41) hx hb d_MM_isComparison_37 (by decide) ?_
    replace hF := Option.some.inj hF
    subst hF
    exact zZret (post := (fun (r9 : Int32) (u9 : Unit) => r9 = 1)) (W1 := (fun (u9 : Unit) => [])) (v := 1) hx hb hr rfl hlocks hP hD hS () rfl rfl d_MM_isComparison_41
  · replace hF := ifn c9 hF
    refine lv_iload_n hx hb d_MM_isComparison_6 rfl (lv_at hl 0 rfl) ?_
    refine lv_bipush (v := 18) hx hb d_MM_isComparison_7 (by decide) ?_
    refine lv_icmp_eq (tgt := 36) hx hb d_MM_isComparison_9 (by decide) (fun c9 => ?_) (fun c9 => ?_)
    · replace hF := ifp c9 hF
      refine lv_iconst (v := 1) hx hb d_MM_isComparison_36 (by decide) ?_
      refine lv_goto (tgt := 41) hx hb d_MM_isComparison_37 (by decide) ?_
      replace hF := Option.some.inj hF
      subst hF
      exact zZret (post := (fun (r9 : Int32) (u9 : Unit) => r9 = 1)) (W1 := (fun (u9 : Unit) => [])) (v := 1) hx hb hr rfl hlocks hP hD hS () rfl rfl d_MM_isComparison_41
    · replace hF := ifn c9 hF
      refine lv_iload_n hx hb d_MM_isComparison_12 rfl (lv_at hl 0 rfl) ?_
      refine lv_bipush (v := 21) hx hb d_MM_isComparison_13 (by decide) ?_
      refine lv_icmp_eq (tgt := 36) hx hb d_MM_isComparison_15 (by decide) (fun c9 => ?_) (fun c9 => ?_)
      · replace hF := ifp c9 hF
        refine lv_iconst (v := 1) hx hb d_MM_isComparison_36 (by decide) ?_
        refine lv_goto (tgt := 41) hx hb d_MM_isComparison_37 (by decide) ?_
        replace hF := Option.some.inj hF
        subst hF
        exact zZret (post := (fun (r9 : Int32) (u9 : Unit) => r9 = 1)) (W1 := (fun (u9 : Unit) => [])) (v := 1) hx hb hr rfl hlocks hP hD hS () rfl rfl d_MM_isComparison_41
      · replace hF := ifn c9 hF
        refine lv_iload_n hx hb d_MM_isComparison_18 rfl (lv_at hl 0 rfl) ?_
        refine lv_bipush (v := 19) hx hb d_MM_isComparison_19 (by decide) ?_
        refine lv_icmp_eq (tgt := 36) hx hb d_MM_isComparison_21 (by decide) (fun c9 => ?_) (fun c9 => ?_)
        · replace hF := ifp c9 hF
          refine lv_iconst (v := 1) hx hb d_MM_isComparison_36 (by decide) ?_
          refine lv_goto (tgt := 41) hx hb d_MM_isComparison_37 (by decide) ?_
          replace hF := Option.some.inj hF
          subst hF
          exact zZret (post := (fun (r9 : Int32) (u9 : Unit) => r9 = 1)) (W1 := (fun (u9 : Unit) => [])) (v := 1) hx hb hr rfl hlocks hP hD hS () rfl rfl d_MM_isComparison_41
        · replace hF := ifn c9 hF
          refine lv_iload_n hx hb d_MM_isComparison_24 rfl (lv_at hl 0 rfl) ?_
          refine lv_bipush (v := 22) hx hb d_MM_isComparison_25 (by decide) ?_
          refine lv_icmp_eq (tgt := 36) hx hb d_MM_isComparison_27 (by decide) (fun c9 => ?_) (fun c9 => ?_)
          · replace hF := ifp c9 hF
            refine lv_iconst (v := 1) hx hb d_MM_isComparison_36 (by decide) ?_
            refine lv_goto (tgt := 41) hx hb d_MM_isComparison_37 (by decide) ?_
            replace hF := Option.some.inj hF
            subst hF
            exact zZret (post := (fun (r9 : Int32) (u9 : Unit) => r9 = 1)) (W1 := (fun (u9 : Unit) => [])) (v := 1) hx hb hr rfl hlocks hP hD hS () rfl rfl d_MM_isComparison_41
          · replace hF := ifn c9 hF
            refine lv_iload_n hx hb d_MM_isComparison_30 rfl (lv_at hl 0 rfl) ?_
            refine lv_bipush (v := 20) hx hb d_MM_isComparison_31 (by decide) ?_
            refine lv_icmp_ne (tgt := 40) hx hb d_MM_isComparison_33 (by decide) (fun c9 => ?_) (fun c9 => ?_)
            · replace hF := ifp c9 hF
              refine lv_iconst (v := 0) hx hb d_MM_isComparison_40 (by decide) ?_
              replace hF := Option.some.inj hF
              subst hF
              exact zZret (post := (fun (r9 : Int32) (u9 : Unit) => r9 = 0)) (W1 := (fun (u9 : Unit) => [])) (v := 0) hx hb hr rfl hlocks hP hD hS () rfl rfl d_MM_isComparison_41
            · replace hF := ifn (fun h9 => h9 c9) hF
              refine lv_iconst (v := 1) hx hb d_MM_isComparison_36 (by decide) ?_
              refine lv_goto (tgt := 41) hx hb d_MM_isComparison_37 (by decide) ?_
              replace hF := Option.some.inj hF
              subst hF
              exact zZret (post := (fun (r9 : Int32) (u9 : Unit) => r9 = 1)) (W1 := (fun (u9 : Unit) => [])) (v := 1) hx hb hr rfl hlocks hP hD hS () rfl rfl d_MM_isComparison_41
set_option maxHeartbeats 4000000 in
set_option maxRecDepth 100000 in
theorem m_MM_isComparison (l : Launch) (D : va_G) (tA : Nat → ClassId) (sz : Nat) (l0 : Int32) (out : Int32) (hF : f_MM_isComparison l0 = some out) : zMi l ({ cls := "ChanceArenaModel", name := "isComparison", desc := "(I)Z" } : Jvm.MethodName) (zW (Jvm.Cond.code ({ cls := "ChanceArenaModel", name := "isComparison", desc := "(I)Z" } : Jvm.MethodName) prog_15_method_18_code (1 : Nat) (Option.some Jvm.ClassFile.FieldType.boolean))) { frames := 0, cells := 0, slots := 0, locals := 0 } [.int l0] D tA [] sz (fun (r9 : Int32) (u9 : Unit) => r9 = out) (fun (u9 : Unit) => []) 0 0 := by
  refine zOpen (l := l) (y := ({ cls := "ChanceArenaModel", name := "isComparison", desc := "(I)Z" } : Jvm.MethodName)) (ws := zW (Jvm.Cond.code ({ cls := "ChanceArenaModel", name := "isComparison", desc := "(I)Z" } : Jvm.MethodName) prog_15_method_18_code (1 : Nat) (Option.some Jvm.ClassFile.FieldType.boolean))) (rm := { frames := 0, cells := 0, slots := 0, locals := 0 }) (av := [.int l0]) (D := D) (tA := tA) (W0 := []) (Wm := []) (sz := sz) (mc := 0) (ms := 0) (fun A => va_Qi (fun (r9 : Int32) (u9 : Unit) => r9 = out) (zPost D A (fun (u9 : Unit) => [])) A) (lv := [(0, .int l0)]) (by decide) rfl (Nat.le_of_ble_eq_true rfl) rfl ?_
  intro p e s m below meth c A ls hx hb hr hml hh hg hown hlocks hnm hK hA hP hD0 hAw hS hl
  have hD := zD hD0 hAw
  exact b_MM_isComparison_0 hx hb hr hml hh hg hown hlocks hK hA    _ _ _ hF  hP hD hS hl
def f_MM_stop (l1 : Int32) (l2 : Int32) (h0_fault : Int32) (h0_faultPlace : Int32) : Option (Int32 × Int32) := some (l1, l2)
set_option maxHeartbeats 4000000 in
set_option maxRecDepth 100000 in
theorem b_MM_stop_0 {p : Program} {l : Launch} {e : Env} {s : State} {m : MethodId} {args : Array Value} {below : List Frame} {meth : Method} {c : Code} {D : va_G} {tA : Nat → ClassId} {A : Nat → Prop} {h0 : Nat} {f0_h0 : List Value} {l1 : Int32} {l2 : Int32} {h0_fault : Int32} {h0_faultPlace : Int32} {out : Int32 × Int32} (hx : p.tables.exec = Jvm.exec) (hb : c.code = prog_15_method_27_code) (hr : meth.sig.returnType = (Option.none : Option Jvm.ClassFile.FieldType)) (hml : c.maxLocals = 3) (hh : zH s) (hg : ∀ w ∈ lw_R, w.before args s = true) (hown : s.vm.findClass "ChanceArenaModel" = some m.cls) (hlocks : meth.locks = false) (hK : va_K D vwCl (zT tA) s) (hA : ∀ q, s.heap.size ≤ q → A q)  : ∀ (f_h0 : List Value) (H : Heap) (locs : List Loc) (ls : Array Slot), f_MM_stop l1 l2 h0_fault h0_faultPlace = some out → f_h0[16]? = some (.int h0_fault) → f_h0[17]? = some (.int h0_faultPlace) → Fr [16, 17] f0_h0 f_h0 → va_P D vwCl [(h0, .inr (13, f_h0))] H → va_D A [(h0, .inr (13, f_h0))] → va_S A s.heap H locs → lv_has ls 3 [(0, .ref h0), (1, .int l1), (2, .int l2)] → W p l e { frames := 0, cells := 0, slots := 0, locals := 0 } s m args below meth c H locs 0 0 (MQ below (va_Qv (fun (u9 : List Value) => Fr [16, 17] f0_h0 u9 ∧ u9[16]? = some (.int out.1) ∧ u9[17]? = some (.int out.2)) (zPost D A (fun (u9 : List Value) => [(h0, .inr (13, u9))])) A) args s 0 0 A) (F0 m 0 ls []) := by
  intro   f_h0 H locs ls hF q_h0_fault q_h0_faultPlace r_h0 hP hD hS hl
  replace hF : ((some (l1, l2)) : Option (Int32 × Int32)) = some out := hF
  refine lv_aload_n hx hb d_MM_stop_0 rfl (lv_at hl 0 rfl) ?_
  refine lv_iload_n hx hb d_MM_stop_1 rfl (lv_at hl 1 rfl) ?_
  refine va_put (D := D) (ci := 13) (v := .int l1) (ty := .int) (C := R_MM) (T := T_MM) (N := 49) hx hb hg i_MM t_MM o_MM n_MM hown hK hP hD hS 0 rfl rfl 16 (by decide) (hg _ k10_62) (fun _ h9 => h9) rfl (by decide +kernel) rfl rfl (zLen q_h0_fault) d_MM_stop_2 (fun H1 locs1 hP1 hD1 hS1 => ?_)
  clear hP hD hS
  replace hP1 : va_P D vwCl [(h0, .inr (13, f_h0.set 16 (.int l1)))] _ := hP1
  replace hD1 : va_D A [(h0, .inr (13, f_h0.set 16 (.int l1)))] := hD1
  refine lv_aload_n hx hb d_MM_stop_5 rfl (lv_at hl 0 rfl) ?_
  refine lv_iload_n hx hb d_MM_stop_6 rfl (lv_at hl 2 rfl) ?_
  refine va_put (D := D) (ci := 13) (v := .int l2) (ty := .int) (C := R_MM) (T := T_MM) (N := 49) hx hb hg i_MM t_MM o_MM n_MM hown hK hP1 hD1 hS1 0 rfl rfl 17 (by decide) (hg _ k10_63) (fun _ h9 => h9) rfl (by decide +kernel) rfl rfl (zLen (zSetN (by decide) q_h0_faultPlace)) d_MM_stop_7 (fun H2 locs2 hP2 hD2 hS2 => ?_)
  clear hP1 hD1 hS1
  replace hP2 : va_P D vwCl [(h0, .inr (13, (f_h0.set 16 (.int l1)).set 17 (.int l2)))] _ := hP2
  replace hD2 : va_D A [(h0, .inr (13, (f_h0.set 16 (.int l1)).set 17 (.int l2)))] := hD2
  replace hF := Option.some.inj hF
  subst hF
  exact zVret (post := (fun (u9 : List Value) => Fr [16, 17] f0_h0 u9 ∧ u9[16]? = some (.int ((l1, l2).1)) ∧ u9[17]? = some (.int ((l1, l2).2)))) (W1 := (fun (u9 : List Value) => [(h0, .inr (13, u9))])) hx hb hr hlocks hP2 hD2 hS2 ((f_h0.set 16 (.int l1)).set 17 (.int l2)) ⟨(Fr.set (Fr.set r_h0 (by decide)) (by decide)), (zSetN (by decide) (zSetS q_h0_fault)), (zSetS (zSetN (by decide) q_h0_faultPlace))⟩ rfl d_MM_stop_10
set_option maxHeartbeats 4000000 in
set_option maxRecDepth 100000 in
theorem m_MM_stop (l : Launch) (D : va_G) (tA : Nat → ClassId) (sz : Nat) (h0 : Nat) (f0_h0 : List Value) (l1 : Int32) (l2 : Int32) (h0_fault : Int32) (h0_faultPlace : Int32) (q_h0_fault : f0_h0[16]? = some (.int h0_fault)) (q_h0_faultPlace : f0_h0[17]? = some (.int h0_faultPlace)) (out : Int32 × Int32) (hF : f_MM_stop l1 l2 h0_fault h0_faultPlace = some out) : zMv l ({ cls := "ChanceArenaModel", name := "stop", desc := "(II)V" } : Jvm.MethodName) (zW (Jvm.Cond.code ({ cls := "ChanceArenaModel", name := "stop", desc := "(II)V" } : Jvm.MethodName) prog_15_method_27_code (3 : Nat) (Option.none : Option Jvm.ClassFile.FieldType))) { frames := 0, cells := 0, slots := 0, locals := 0 } [.ref h0, .int l1, .int l2] D tA [(h0, .inr (13, f0_h0))] sz (fun (u9 : List Value) => Fr [16, 17] f0_h0 u9 ∧ u9[16]? = some (.int out.1) ∧ u9[17]? = some (.int out.2)) (fun (u9 : List Value) => [(h0, .inr (13, u9))]) 0 0 := by
  refine zOpen (l := l) (y := ({ cls := "ChanceArenaModel", name := "stop", desc := "(II)V" } : Jvm.MethodName)) (ws := zW (Jvm.Cond.code ({ cls := "ChanceArenaModel", name := "stop", desc := "(II)V" } : Jvm.MethodName) prog_15_method_27_code (3 : Nat) (Option.none : Option Jvm.ClassFile.FieldType))) (rm := { frames := 0, cells := 0, slots := 0, locals := 0 }) (av := [.ref h0, .int l1, .int l2]) (D := D) (tA := tA) (W0 := [(h0, .inr (13, f0_h0))]) (Wm := [(h0, .inr (13, f0_h0))]) (sz := sz) (mc := 0) (ms := 0) (fun A => va_Qv (fun (u9 : List Value) => Fr [16, 17] f0_h0 u9 ∧ u9[16]? = some (.int out.1) ∧ u9[17]? = some (.int out.2)) (zPost D A (fun (u9 : List Value) => [(h0, .inr (13, u9))])) A) (lv := [(0, .ref h0), (1, .int l1), (2, .int l2)]) (by decide) rfl (Nat.le_of_ble_eq_true rfl) rfl ?_
  intro p e s m below meth c A ls hx hb hr hml hh hg hown hlocks hnm hK hA hP hD0 hAw hS hl
  have hD := zD hD0 hAw
  exact b_MM_stop_0 hx hb hr hml hh hg hown hlocks hK hA   f0_h0 _ _ _ hF q_h0_fault q_h0_faultPlace Fr.rfl hP hD hS hl
def f_MM_word1 (h0_kinds_all_n : Nat) (l1 : Int32) (h0_kinds_all_c : Nat → Int32) : Option (Int32) := Option.bind (f_MN_at h0_kinds_all_n l1 h0_kinds_all_c) (fun o1 => some (o1))
set_option maxHeartbeats 4000000 in
set_option maxRecDepth 100000 in
theorem b_MM_word1_0 {p : Program} {l : Launch} {e : Env} {s : State} {m : MethodId} {args : Array Value} {below : List Frame} {meth : Method} {c : Code} {D : va_G} {tA : Nat → ClassId} {A : Nat → Prop} {h0 h0_kinds h0_kinds_all : Nat} {f0_h0 f0_h0_kinds : List Value} {h0_kinds_all_n : Nat} {l1 : Int32} {h0_kinds_all_c : Nat → Int32} {out : Int32} (hx : p.tables.exec = Jvm.exec) (hb : c.code = prog_15_method_28_code) (hr : meth.sig.returnType = (Option.some Jvm.ClassFile.FieldType.int)) (hml : c.maxLocals = 2) (hh : zH s) (hg : ∀ w ∈ lw_R, w.before args s = true) (hown : s.vm.findClass "ChanceArenaModel" = some m.cls) (hlocks : meth.locks = false) (hK : va_K D vwCl (zT tA) s) (hA : ∀ q, s.heap.size ≤ q → A q)  : ∀ (H : Heap) (locs : List Loc) (ls : Array Slot), f_MM_word1 h0_kinds_all_n l1 h0_kinds_all_c = some out → f0_h0[3]? = some (.ref h0_kinds) → f0_h0_kinds[0]? = some (.ref h0_kinds_all) → va_P D vwCl [(h0, .inr (13, f0_h0)), (h0_kinds, .inr (14, f0_h0_kinds)), (h0_kinds_all, .inl (tA 0, h0_kinds_all_n, .inl h0_kinds_all_c))] H → va_D A [(h0, .inr (13, f0_h0)), (h0_kinds, .inr (14, f0_h0_kinds)), (h0_kinds_all, .inl (tA 0, h0_kinds_all_n, .inl h0_kinds_all_c))] → va_S A s.heap H locs → lv_has ls 2 [(0, .ref h0), (1, .int l1)] → W p l e { frames := 1, cells := 0, slots := 0, locals := 21 } s m args below meth c H locs 0 0 (MQ below (va_Qi (fun (r9 : Int32) (u9 : Unit) => r9 = out) (zPost D A (fun (u9 : Unit) => [(h0, .inr (13, f0_h0)), (h0_kinds, .inr (14, f0_h0_kinds)), (h0_kinds_all, .inl (tA 0, h0_kinds_all_n, .inl h0_kinds_all_c))])) A) args s 0 0 A) (F0 m 0 ls []) := by
  intro    H locs ls hF q_h0_kinds q_h0_kinds_all hP hD hS hl
  replace hF : ((Option.bind (f_MN_at h0_kinds_all_n l1 h0_kinds_all_c) (fun o1 => some (o1))) : Option (Int32)) = some out := hF
  refine lv_aload_n hx hb d_MM_word1_0 rfl (lv_at hl 0 rfl) ?_
  refine va_get (D := D) (ci := 13) (v := .ref h0_kinds) (C := R_MM) (T := T_MM) (N := 49) hx hb hg i_MM hown hK hP 0 rfl rfl 3 (by decide) (hg _ k10_49) (fun _ h9 => h9) q_h0_kinds d_MM_word1_1 ?_
  refine lv_iload_n hx hb d_MM_word1_4 rfl (lv_at hl 1 rfl) ?_
  obtain ⟨o1, h1, hF⟩ := bsome hF
  refine zCalli (wc := [(h0_kinds, .inr (14, f0_h0_kinds)), (h0_kinds_all, .inl (tA 0, h0_kinds_all_n, .inl h0_kinds_all_c))]) (wr := [(h0, .inr (13, f0_h0))]) hP hD hS hA [1, 2] [0] rfl rfl (by decide) (by decide) (va_runV (As := [.int l1]) (rest := []) ⟨hx, hb, hml, hown, hg⟩ (m_MN_at l D tA _ h0_kinds h0_kinds_all f0_h0_kinds h0_kinds_all_n l1 h0_kinds_all_c q_h0_kinds_all o1 h1) (zV 1 hg k10_230 k10_231 k10_232 k1_15 k10_233 rfl rfl (by decide +kernel) ⟨(Nat.le_of_ble_eq_true rfl), (Nat.le_of_ble_eq_true rfl)⟩) (zPreV hh hK hP hD [1, 2] (by decide) rfl (ci := 14) rfl 0 rfl) rfl rfl hl.1 rfl (lv_room (Nat.le_of_ble_eq_true rfl)) d_MM_word1_5 ⟨(Nat.le_of_ble_eq_true rfl), (Nat.le_of_ble_eq_true rfl)⟩) (fun r1 u1 H1 locs1 e1 hP1 hD1 hS1 => ?_)
  clear hP hD hS
  refine W.cs (cells' := 0) (slots' := 0) rfl rfl ?_
  have x1 := e1
  rw [x1]
  replace hP1 : va_P D vwCl [(h0, .inr (13, f0_h0)), (h0_kinds, .inr (14, f0_h0_kinds)), (h0_kinds_all, .inl (tA 0, h0_kinds_all_n, .inl h0_kinds_all_c))] _ := hP1
  replace hD1 : va_D A [(h0, .inr (13, f0_h0)), (h0_kinds, .inr (14, f0_h0_kinds)), (h0_kinds_all, .inl (tA 0, h0_kinds_all_n, .inl h0_kinds_all_c))] := hD1
  replace hF := Option.some.inj hF
  subst hF
  exact zZret (post := (fun (r9 : Int32) (u9 : Unit) => r9 = o1)) (W1 := (fun (u9 : Unit) => [(h0, .inr (13, f0_h0)), (h0_kinds, .inr (14, f0_h0_kinds)), (h0_kinds_all, .inl (tA 0, h0_kinds_all_n, .inl h0_kinds_all_c))])) (v := o1) hx hb hr rfl hlocks hP1 hD1 hS1 () rfl rfl d_MM_word1_8
set_option maxHeartbeats 4000000 in
set_option maxRecDepth 100000 in
theorem m_MM_word1 (l : Launch) (D : va_G) (tA : Nat → ClassId) (sz : Nat) (h0 h0_kinds h0_kinds_all : Nat) (f0_h0 f0_h0_kinds : List Value) (h0_kinds_all_n : Nat) (l1 : Int32) (h0_kinds_all_c : Nat → Int32) (q_h0_kinds : f0_h0[3]? = some (.ref h0_kinds)) (q_h0_kinds_all : f0_h0_kinds[0]? = some (.ref h0_kinds_all)) (out : Int32) (hF : f_MM_word1 h0_kinds_all_n l1 h0_kinds_all_c = some out) : zMi l ({ cls := "ChanceArenaModel", name := "word", desc := "(I)I" } : Jvm.MethodName) (zW (Jvm.Cond.code ({ cls := "ChanceArenaModel", name := "word", desc := "(I)I" } : Jvm.MethodName) prog_15_method_28_code (2 : Nat) (Option.some Jvm.ClassFile.FieldType.int))) { frames := 1, cells := 0, slots := 0, locals := 21 } [.ref h0, .int l1] D tA [(h0, .inr (13, f0_h0)), (h0_kinds, .inr (14, f0_h0_kinds)), (h0_kinds_all, .inl (tA 0, h0_kinds_all_n, .inl h0_kinds_all_c))] sz (fun (r9 : Int32) (u9 : Unit) => r9 = out) (fun (u9 : Unit) => [(h0, .inr (13, f0_h0)), (h0_kinds, .inr (14, f0_h0_kinds)), (h0_kinds_all, .inl (tA 0, h0_kinds_all_n, .inl h0_kinds_all_c))]) 0 0 := by
  refine zOpen (l := l) (y := ({ cls := "ChanceArenaModel", name := "word", desc := "(I)I" } : Jvm.MethodName)) (ws := zW (Jvm.Cond.code ({ cls := "ChanceArenaModel", name := "word", desc := "(I)I" } : Jvm.MethodName) prog_15_method_28_code (2 : Nat) (Option.some Jvm.ClassFile.FieldType.int))) (rm := { frames := 1, cells := 0, slots := 0, locals := 21 }) (av := [.ref h0, .int l1]) (D := D) (tA := tA) (W0 := [(h0, .inr (13, f0_h0)), (h0_kinds, .inr (14, f0_h0_kinds)), (h0_kinds_all, .inl (tA 0, h0_kinds_all_n, .inl h0_kinds_all_c))]) (Wm := [(h0, .inr (13, f0_h0)), (h0_kinds, .inr (14, f0_h0_kinds)), (h0_kinds_all, .inl (tA 0, h0_kinds_all_n, .inl h0_kinds_all_c))]) (sz := sz) (mc := 0) (ms := 0) (fun A => va_Qi (fun (r9 : Int32) (u9 : Unit) => r9 = out) (zPost D A (fun (u9 : Unit) => [(h0, .inr (13, f0_h0)), (h0_kinds, .inr (14, f0_h0_kinds)), (h0_kinds_all, .inl (tA 0, h0_kinds_all_n, .inl h0_kinds_all_c))])) A) (lv := [(0, .ref h0), (1, .int l1)]) (by decide) rfl (Nat.le_of_ble_eq_true rfl) rfl ?_
  intro p e s m below meth c A ls hx hb hr hml hh hg hown hlocks hnm hK hA hP hD0 hAw hS hl
  have hD := zD hD0 hAw
  exact b_MM_word1_0 hx hb hr hml hh hg hown hlocks hK hA    _ _ _ hF q_h0_kinds q_h0_kinds_all hP hD hS hl
def f_MM_place0 (h0_places_all_n : Nat) (l1 : Int32) (h0_places_all_c : Nat → Int32) : Option (Int32) := Option.bind (f_MN_at h0_places_all_n l1 h0_places_all_c) (fun o1 => some (o1))
set_option maxHeartbeats 4000000 in
set_option maxRecDepth 100000 in
theorem b_MM_place0_0 {p : Program} {l : Launch} {e : Env} {s : State} {m : MethodId} {args : Array Value} {below : List Frame} {meth : Method} {c : Code} {D : va_G} {tA : Nat → ClassId} {A : Nat → Prop} {h0 h0_places h0_places_all : Nat} {f0_h0 f0_h0_places : List Value} {h0_places_all_n : Nat} {l1 : Int32} {h0_places_all_c : Nat → Int32} {out : Int32} (hx : p.tables.exec = Jvm.exec) (hb : c.code = prog_15_method_29_code) (hr : meth.sig.returnType = (Option.some Jvm.ClassFile.FieldType.int)) (hml : c.maxLocals = 2) (hh : zH s) (hg : ∀ w ∈ lw_R, w.before args s = true) (hown : s.vm.findClass "ChanceArenaModel" = some m.cls) (hlocks : meth.locks = false) (hK : va_K D vwCl (zT tA) s) (hA : ∀ q, s.heap.size ≤ q → A q)  : ∀ (H : Heap) (locs : List Loc) (ls : Array Slot), f_MM_place0 h0_places_all_n l1 h0_places_all_c = some out → f0_h0[4]? = some (.ref h0_places) → f0_h0_places[0]? = some (.ref h0_places_all) → va_P D vwCl [(h0, .inr (13, f0_h0)), (h0_places, .inr (14, f0_h0_places)), (h0_places_all, .inl (tA 0, h0_places_all_n, .inl h0_places_all_c))] H → va_D A [(h0, .inr (13, f0_h0)), (h0_places, .inr (14, f0_h0_places)), (h0_places_all, .inl (tA 0, h0_places_all_n, .inl h0_places_all_c))] → va_S A s.heap H locs → lv_has ls 2 [(0, .ref h0), (1, .int l1)] → W p l e { frames := 1, cells := 0, slots := 0, locals := 21 } s m args below meth c H locs 0 0 (MQ below (va_Qi (fun (r9 : Int32) (u9 : Unit) => r9 = out) (zPost D A (fun (u9 : Unit) => [(h0, .inr (13, f0_h0)), (h0_places, .inr (14, f0_h0_places)), (h0_places_all, .inl (tA 0, h0_places_all_n, .inl h0_places_all_c))])) A) args s 0 0 A) (F0 m 0 ls []) := by
  intro    H locs ls hF q_h0_places q_h0_places_all hP hD hS hl
  replace hF : ((Option.bind (f_MN_at h0_places_all_n l1 h0_places_all_c) (fun o1 => some (o1))) : Option (Int32)) = some out := hF
  refine lv_aload_n hx hb d_MM_place0_0 rfl (lv_at hl 0 rfl) ?_
  refine va_get (D := D) (ci := 13) (v := .ref h0_places) (C := R_MM) (T := T_MM) (N := 49) hx hb hg i_MM hown hK hP 0 rfl rfl 4 (by decide) (hg _ k10_50) (fun _ h9 => h9) q_h0_places d_MM_place0_1 ?_
  refine lv_iload_n hx hb d_MM_place0_4 rfl (lv_at hl 1 rfl) ?_
  obtain ⟨o1, h1, hF⟩ := bsome hF
  refine zCalli (wc := [(h0_places, .inr (14, f0_h0_places)), (h0_places_all, .inl (tA 0, h0_places_all_n, .inl h0_places_all_c))]) (wr := [(h0, .inr (13, f0_h0))]) hP hD hS hA [1, 2] [0] rfl rfl (by decide) (by decide) (va_runV (As := [.int l1]) (rest := []) ⟨hx, hb, hml, hown, hg⟩ (m_MN_at l D tA _ h0_places h0_places_all f0_h0_places h0_places_all_n l1 h0_places_all_c q_h0_places_all o1 h1) (zV 1 hg k10_230 k10_231 k10_232 k1_15 k10_233 rfl rfl (by decide +kernel) ⟨(Nat.le_of_ble_eq_true rfl), (Nat.le_of_ble_eq_true rfl)⟩) (zPreV hh hK hP hD [1, 2] (by decide) rfl (ci := 14) rfl 0 rfl) rfl rfl hl.1 rfl (lv_room (Nat.le_of_ble_eq_true rfl)) d_MM_place0_5 ⟨(Nat.le_of_ble_eq_true rfl), (Nat.le_of_ble_eq_true rfl)⟩) (fun r1 u1 H1 locs1 e1 hP1 hD1 hS1 => ?_)
  clear hP hD hS
  refine W.cs (cells' := 0) (slots' := 0) rfl rfl ?_
  have x1 := e1
  rw [x1]
  replace hP1 : va_P D vwCl [(h0, .inr (13, f0_h0)), (h0_places, .inr (14, f0_h0_places)), (h0_places_all, .inl (tA 0, h0_places_all_n, .inl h0_places_all_c))] _ := hP1
  replace hD1 : va_D A [(h0, .inr (13, f0_h0)), (h0_places, .inr (14, f0_h0_places)), (h0_places_all, .inl (tA 0, h0_places_all_n, .inl h0_places_all_c))] := hD1
  replace hF := Option.some.inj hF
  subst hF
  exact zZret (post := (fun (r9 : Int32) (u9 : Unit) => r9 = o1)) (W1 := (fun (u9 : Unit) => [(h0, .inr (13, f0_h0)), (h0_places, .inr (14, f0_h0_places)), (h0_places_all, .inl (tA 0, h0_places_all_n, .inl h0_places_all_c))])) (v := o1) hx hb hr rfl hlocks hP1 hD1 hS1 () rfl rfl d_MM_place0_8
set_option maxHeartbeats 4000000 in
set_option maxRecDepth 100000 in
theorem m_MM_place0 (l : Launch) (D : va_G) (tA : Nat → ClassId) (sz : Nat) (h0 h0_places h0_places_all : Nat) (f0_h0 f0_h0_places : List Value) (h0_places_all_n : Nat) (l1 : Int32) (h0_places_all_c : Nat → Int32) (q_h0_places : f0_h0[4]? = some (.ref h0_places)) (q_h0_places_all : f0_h0_places[0]? = some (.ref h0_places_all)) (out : Int32) (hF : f_MM_place0 h0_places_all_n l1 h0_places_all_c = some out) : zMi l ({ cls := "ChanceArenaModel", name := "place", desc := "(I)I" } : Jvm.MethodName) (zW (Jvm.Cond.code ({ cls := "ChanceArenaModel", name := "place", desc := "(I)I" } : Jvm.MethodName) prog_15_method_29_code (2 : Nat) (Option.some Jvm.ClassFile.FieldType.int))) { frames := 1, cells := 0, slots := 0, locals := 21 } [.ref h0, .int l1] D tA [(h0, .inr (13, f0_h0)), (h0_places, .inr (14, f0_h0_places)), (h0_places_all, .inl (tA 0, h0_places_all_n, .inl h0_places_all_c))] sz (fun (r9 : Int32) (u9 : Unit) => r9 = out) (fun (u9 : Unit) => [(h0, .inr (13, f0_h0)), (h0_places, .inr (14, f0_h0_places)), (h0_places_all, .inl (tA 0, h0_places_all_n, .inl h0_places_all_c))]) 0 0 := by
  refine zOpen (l := l) (y := ({ cls := "ChanceArenaModel", name := "place", desc := "(I)I" } : Jvm.MethodName)) (ws := zW (Jvm.Cond.code ({ cls := "ChanceArenaModel", name := "place", desc := "(I)I" } : Jvm.MethodName) prog_15_method_29_code (2 : Nat) (Option.some Jvm.ClassFile.FieldType.int))) (rm := { frames := 1, cells := 0, slots := 0, locals := 21 }) (av := [.ref h0, .int l1]) (D := D) (tA := tA) (W0 := [(h0, .inr (13, f0_h0)), (h0_places, .inr (14, f0_h0_places)), (h0_places_all, .inl (tA 0, h0_places_all_n, .inl h0_places_all_c))]) (Wm := [(h0, .inr (13, f0_h0)), (h0_places, .inr (14, f0_h0_places)), (h0_places_all, .inl (tA 0, h0_places_all_n, .inl h0_places_all_c))]) (sz := sz) (mc := 0) (ms := 0) (fun A => va_Qi (fun (r9 : Int32) (u9 : Unit) => r9 = out) (zPost D A (fun (u9 : Unit) => [(h0, .inr (13, f0_h0)), (h0_places, .inr (14, f0_h0_places)), (h0_places_all, .inl (tA 0, h0_places_all_n, .inl h0_places_all_c))])) A) (lv := [(0, .ref h0), (1, .int l1)]) (by decide) rfl (Nat.le_of_ble_eq_true rfl) rfl ?_
  intro p e s m below meth c A ls hx hb hr hml hh hg hown hlocks hnm hK hA hP hD0 hAw hS hl
  have hD := zD hD0 hAw
  exact b_MM_place0_0 hx hb hr hml hh hg hown hlocks hK hA    _ _ _ hF q_h0_places q_h0_places_all hP hD hS hl
