section
variable {G : mG} {d pc t n w T A B D N C p a : Nat} {f : Nat → Int} {M : mM} {Q : Option mV → mM → Prop}
theorem s_Wo_nameSort (hJ : JD G) (hL : ∀ q, q ∈ litBW → Lit G "ChanceArena$Words" q.1 q.2.1 q.2.2) (hO : mOk M) (h : WA M w T A B D N C) (hp : p + n ≤ N) (hn : n ≤ 40) : Ci G y_Wo_nameSort (d + 5) [vr w, vi p, vi n] M (fun r M' => M' = M ∧ (2 ≤ r ∧ r ≤ 16 ∧ r ≠ 3) ∧ r = kwq (wlq (mI M T) p (p + n)) + 1) := by
  have hlen : (wlq (mI M T) p (p + n)).length = n := by rw [wlq_len]; omega
  refine wm_open (y := y_Wo_nameSort) rfl (Nat.le_of_ble_eq_true rfl) (L := [vr w, vi p, vi n]) rfl ?_
  refine (?_ : ∀ Q9 : Option mV → mM → Prop, (∀ x : Int, 2 ≤ x → x ≤ 16 → x ≠ 3 → x = kwq (wlq (mI M T) p (p + n)) + 1 → Q9 (some (vi x)) M) → mWm G y_Wo_nameSort (d + 5) 0 [vr w, vi p, vi n] [] M Q9) _ (fun x a b c e => ⟨x, rfl, rfl, ⟨a, b, c⟩, e⟩)
  intro Q9 hend
  have B46 : kwq (wlq (mI M T) p (p + n)) = 4 → mWm G y_Wo_nameSort (d + 5) 46 [vr w, vi p, vi n] [] M Q9 := fun ek => by
    refine wm_iconst d_Wo_nameSort_46 ?_
    refine wm_goto (tgt := 81) d_Wo_nameSort_47 rfl ?_
    refine wm_ireturn d_Wo_nameSort_81 rfl rfl ?_
    exact hend _ (by decide) (by decide) (by decide) (Eq.trans (by decide) (congrArg (· + 1) ek.symm))
  have B60 : kwq (wlq (mI M T) p (p + n)) = 7 → mWm G y_Wo_nameSort (d + 5) 60 [vr w, vi p, vi n] [] M Q9 := fun ek => by
    refine wm_bipush d_Wo_nameSort_60 (by decide) ?_
    refine wm_goto (tgt := 81) d_Wo_nameSort_62 rfl ?_
    refine wm_ireturn d_Wo_nameSort_81 rfl rfl ?_
    exact hend _ (by decide) (by decide) (by decide) (Eq.trans (by decide) (congrArg (· + 1) ek.symm))
  have B75 : kwq (wlq (mI M T) p (p + n)) = 8 → mWm G y_Wo_nameSort (d + 5) 75 [vr w, vi p, vi n] [] M Q9 := fun ek => by
    refine wm_bipush d_Wo_nameSort_75 (by decide) ?_
    refine wm_goto (tgt := 81) d_Wo_nameSort_77 rfl ?_
    refine wm_ireturn d_Wo_nameSort_81 rfl rfl ?_
    exact hend _ (by decide) (by decide) (by decide) (Eq.trans (by decide) (congrArg (· + 1) ek.symm))
  have B80 : kwq (wlq (mI M T) p (p + n)) = 1 → mWm G y_Wo_nameSort (d + 5) 80 [vr w, vi p, vi n] [] M Q9 := fun ek => by
    refine wm_iconst d_Wo_nameSort_80 ?_
    refine wm_ireturn d_Wo_nameSort_81 rfl rfl ?_
    exact hend _ (by decide) (by decide) (by decide) (Eq.trans (by decide) (congrArg (· + 1) ek.symm))
  have B92 : kwq (wlq (mI M T) p (p + n)) = 12 → mWm G y_Wo_nameSort (d + 5) 92 [vr w, vi p, vi n] [] M Q9 := fun ek => by
    refine wm_bipush d_Wo_nameSort_92 (by decide) ?_
    refine wm_goto (tgt := 158) d_Wo_nameSort_94 rfl ?_
    refine wm_ireturn d_Wo_nameSort_158 rfl rfl ?_
    exact hend _ (by decide) (by decide) (by decide) (Eq.trans (by decide) (congrArg (· + 1) ek.symm))
  have B107 : kwq (wlq (mI M T) p (p + n)) = 10 → mWm G y_Wo_nameSort (d + 5) 107 [vr w, vi p, vi n] [] M Q9 := fun ek => by
    refine wm_bipush d_Wo_nameSort_107 (by decide) ?_
    refine wm_goto (tgt := 158) d_Wo_nameSort_109 rfl ?_
    refine wm_ireturn d_Wo_nameSort_158 rfl rfl ?_
    exact hend _ (by decide) (by decide) (by decide) (Eq.trans (by decide) (congrArg (· + 1) ek.symm))
  have B122 : kwq (wlq (mI M T) p (p + n)) = 5 → mWm G y_Wo_nameSort (d + 5) 122 [vr w, vi p, vi n] [] M Q9 := fun ek => by
    refine wm_bipush d_Wo_nameSort_122 (by decide) ?_
    refine wm_goto (tgt := 158) d_Wo_nameSort_124 rfl ?_
    refine wm_ireturn d_Wo_nameSort_158 rfl rfl ?_
    exact hend _ (by decide) (by decide) (by decide) (Eq.trans (by decide) (congrArg (· + 1) ek.symm))
  have B137 : kwq (wlq (mI M T) p (p + n)) = 9 → mWm G y_Wo_nameSort (d + 5) 137 [vr w, vi p, vi n] [] M Q9 := fun ek => by
    refine wm_bipush d_Wo_nameSort_137 (by decide) ?_
    refine wm_goto (tgt := 158) d_Wo_nameSort_139 rfl ?_
    refine wm_ireturn d_Wo_nameSort_158 rfl rfl ?_
    exact hend _ (by decide) (by decide) (by decide) (Eq.trans (by decide) (congrArg (· + 1) ek.symm))
  have B152 : kwq (wlq (mI M T) p (p + n)) = 15 → mWm G y_Wo_nameSort (d + 5) 152 [vr w, vi p, vi n] [] M Q9 := fun ek => by
    refine wm_bipush d_Wo_nameSort_152 (by decide) ?_
    refine wm_goto (tgt := 158) d_Wo_nameSort_154 rfl ?_
    refine wm_ireturn d_Wo_nameSort_158 rfl rfl ?_
    exact hend _ (by decide) (by decide) (by decide) (Eq.trans (by decide) (congrArg (· + 1) ek.symm))
  have B157 : kwq (wlq (mI M T) p (p + n)) = 1 → mWm G y_Wo_nameSort (d + 5) 157 [vr w, vi p, vi n] [] M Q9 := fun ek => by
    refine wm_iconst d_Wo_nameSort_157 ?_
    refine wm_ireturn d_Wo_nameSort_158 rfl rfl ?_
    exact hend _ (by decide) (by decide) (by decide) (Eq.trans (by decide) (congrArg (· + 1) ek.symm))
  have B169 : kwq (wlq (mI M T) p (p + n)) = 3 → mWm G y_Wo_nameSort (d + 5) 169 [vr w, vi p, vi n] [] M Q9 := fun ek => by
    refine wm_iconst d_Wo_nameSort_169 ?_
    refine wm_goto (tgt := 204) d_Wo_nameSort_170 rfl ?_
    refine wm_ireturn d_Wo_nameSort_204 rfl rfl ?_
    exact hend _ (by decide) (by decide) (by decide) (Eq.trans (by decide) (congrArg (· + 1) ek.symm))
  have B183 : kwq (wlq (mI M T) p (p + n)) = 13 → mWm G y_Wo_nameSort (d + 5) 183 [vr w, vi p, vi n] [] M Q9 := fun ek => by
    refine wm_bipush d_Wo_nameSort_183 (by decide) ?_
    refine wm_goto (tgt := 204) d_Wo_nameSort_185 rfl ?_
    refine wm_ireturn d_Wo_nameSort_204 rfl rfl ?_
    exact hend _ (by decide) (by decide) (by decide) (Eq.trans (by decide) (congrArg (· + 1) ek.symm))
  have B198 : kwq (wlq (mI M T) p (p + n)) = 14 → mWm G y_Wo_nameSort (d + 5) 198 [vr w, vi p, vi n] [] M Q9 := fun ek => by
    refine wm_bipush d_Wo_nameSort_198 (by decide) ?_
    refine wm_goto (tgt := 204) d_Wo_nameSort_200 rfl ?_
    refine wm_ireturn d_Wo_nameSort_204 rfl rfl ?_
    exact hend _ (by decide) (by decide) (by decide) (Eq.trans (by decide) (congrArg (· + 1) ek.symm))
  have B203 : kwq (wlq (mI M T) p (p + n)) = 1 → mWm G y_Wo_nameSort (d + 5) 203 [vr w, vi p, vi n] [] M Q9 := fun ek => by
    refine wm_iconst d_Wo_nameSort_203 ?_
    refine wm_ireturn d_Wo_nameSort_204 rfl rfl ?_
    exact hend _ (by decide) (by decide) (by decide) (Eq.trans (by decide) (congrArg (· + 1) ek.symm))
  have B215 : kwq (wlq (mI M T) p (p + n)) = 11 → mWm G y_Wo_nameSort (d + 5) 215 [vr w, vi p, vi n] [] M Q9 := fun ek => by
    refine wm_bipush d_Wo_nameSort_215 (by decide) ?_
    refine wm_goto (tgt := 221) d_Wo_nameSort_217 rfl ?_
    refine wm_ireturn d_Wo_nameSort_221 rfl rfl ?_
    exact hend _ (by decide) (by decide) (by decide) (Eq.trans (by decide) (congrArg (· + 1) ek.symm))
  have B220 : kwq (wlq (mI M T) p (p + n)) = 1 → mWm G y_Wo_nameSort (d + 5) 220 [vr w, vi p, vi n] [] M Q9 := fun ek => by
    refine wm_iconst d_Wo_nameSort_220 ?_
    refine wm_ireturn d_Wo_nameSort_221 rfl rfl ?_
    exact hend _ (by decide) (by decide) (by decide) (Eq.trans (by decide) (congrArg (· + 1) ek.symm))
  have B232 : kwq (wlq (mI M T) p (p + n)) = 6 → mWm G y_Wo_nameSort (d + 5) 232 [vr w, vi p, vi n] [] M Q9 := fun ek => by
    refine wm_bipush d_Wo_nameSort_232 (by decide) ?_
    refine wm_goto (tgt := 238) d_Wo_nameSort_234 rfl ?_
    refine wm_ireturn d_Wo_nameSort_238 rfl rfl ?_
    exact hend _ (by decide) (by decide) (by decide) (Eq.trans (by decide) (congrArg (· + 1) ek.symm))
  have B237 : kwq (wlq (mI M T) p (p + n)) = 1 → mWm G y_Wo_nameSort (d + 5) 237 [vr w, vi p, vi n] [] M Q9 := fun ek => by
    refine wm_iconst d_Wo_nameSort_237 ?_
    refine wm_ireturn d_Wo_nameSort_238 rfl rfl ?_
    exact hend _ (by decide) (by decide) (by decide) (Eq.trans (by decide) (congrArg (· + 1) ek.symm))
  have B239 : kwq (wlq (mI M T) p (p + n)) = 1 → mWm G y_Wo_nameSort (d + 5) 239 [vr w, vi p, vi n] [] M Q9 := fun ek => by
    refine wm_iconst d_Wo_nameSort_239 ?_
    refine wm_ireturn d_Wo_nameSort_240 rfl rfl ?_
    exact hend _ (by decide) (by decide) (by decide) (Eq.trans (by decide) (congrArg (· + 1) ek.symm))
  have B222 : n = 7 → mWm G y_Wo_nameSort (d + 5) 222 [vr w, vi p, vi n] [] M Q9 := fun e => ns_test (tgt := 237) hJ (hL (100, "formula", [102, 111, 114, 109, 117, 108, 97]) (List.mem_of_getElem? (i := 12) rfl)) hO h (by show p + 7 ≤ N; omega) e d_Wo_nameSort_222 d_Wo_nameSort_223 d_Wo_nameSort_224 d_Wo_nameSort_226 d_Wo_nameSort_229 rfl (fun c => B237 (kw_none (wl_len hlen (by rw [e]; decide)) (wl_len hlen (by rw [e]; decide)) (wl_len hlen (by rw [e]; decide)) (wl_len hlen (by rw [e]; decide)) (wl_len hlen (by rw [e]; decide)) (wl_len hlen (by rw [e]; decide)) (wl_len hlen (by rw [e]; decide)) (wl_len hlen (by rw [e]; decide)) (wl_len hlen (by rw [e]; decide)) (wl_len hlen (by rw [e]; decide)) (wl_len hlen (by rw [e]; decide)) (wl_len hlen (by rw [e]; decide)) c)) (fun c => B232 (by rw [c]; decide))
  have B205 : n = 6 → mWm G y_Wo_nameSort (d + 5) 205 [vr w, vi p, vi n] [] M Q9 := fun e => ns_test (tgt := 220) hJ (hL (98, "target", [116, 97, 114, 103, 101, 116]) (List.mem_of_getElem? (i := 11) rfl)) hO h (by show p + 6 ≤ N; omega) e d_Wo_nameSort_205 d_Wo_nameSort_206 d_Wo_nameSort_207 d_Wo_nameSort_209 d_Wo_nameSort_212 rfl (fun c => B220 (kw_none (wl_len hlen (by rw [e]; decide)) (wl_len hlen (by rw [e]; decide)) (wl_len hlen (by rw [e]; decide)) (wl_len hlen (by rw [e]; decide)) (wl_len hlen (by rw [e]; decide)) (wl_len hlen (by rw [e]; decide)) (wl_len hlen (by rw [e]; decide)) (wl_len hlen (by rw [e]; decide)) (wl_len hlen (by rw [e]; decide)) (wl_len hlen (by rw [e]; decide)) (wl_len hlen (by rw [e]; decide)) c (wl_len hlen (by rw [e]; decide)))) (fun c => B215 (by rw [c]; decide))
  have B188 : n = 5 → wlq (mI M T) p (p + n) ≠ [99, 111, 110, 115, 116] → wlq (mI M T) p (p + n) ≠ [102, 97, 108, 115, 101] → mWm G y_Wo_nameSort (d + 5) 188 [vr w, vi p, vi n] [] M Q9 := fun e v8 v9 => ns_test (tgt := 203) hJ (hL (96, "least", [108, 101, 97, 115, 116]) (List.mem_of_getElem? (i := 10) rfl)) hO h (by show p + 5 ≤ N; omega) e d_Wo_nameSort_188 d_Wo_nameSort_189 d_Wo_nameSort_190 d_Wo_nameSort_192 d_Wo_nameSort_195 rfl (fun c => B203 (kw_none (wl_len hlen (by rw [e]; decide)) (wl_len hlen (by rw [e]; decide)) (wl_len hlen (by rw [e]; decide)) (wl_len hlen (by rw [e]; decide)) (wl_len hlen (by rw [e]; decide)) (wl_len hlen (by rw [e]; decide)) (wl_len hlen (by rw [e]; decide)) (wl_len hlen (by rw [e]; decide)) v8 v9 c (wl_len hlen (by rw [e]; decide)) (wl_len hlen (by rw [e]; decide)))) (fun c => B198 (by rw [c]; decide))
  have B173 : n = 5 → wlq (mI M T) p (p + n) ≠ [99, 111, 110, 115, 116] → mWm G y_Wo_nameSort (d + 5) 173 [vr w, vi p, vi n] [] M Q9 := fun e v8 => ns_test (tgt := 188) hJ (hL (94, "false", [102, 97, 108, 115, 101]) (List.mem_of_getElem? (i := 9) rfl)) hO h (by show p + 5 ≤ N; omega) e d_Wo_nameSort_173 d_Wo_nameSort_174 d_Wo_nameSort_175 d_Wo_nameSort_177 d_Wo_nameSort_180 rfl (fun c => B188 e v8 c) (fun c => B183 (by rw [c]; decide))
  have B159 : n = 5 → mWm G y_Wo_nameSort (d + 5) 159 [vr w, vi p, vi n] [] M Q9 := fun e => ns_test (tgt := 173) hJ (hL (92, "const", [99, 111, 110, 115, 116]) (List.mem_of_getElem? (i := 8) rfl)) hO h (by show p + 5 ≤ N; omega) e d_Wo_nameSort_159 d_Wo_nameSort_160 d_Wo_nameSort_161 d_Wo_nameSort_163 d_Wo_nameSort_166 rfl (fun c => B173 e c) (fun c => B169 (by rw [c]; decide))
  have B142 : n = 4 → wlq (mI M T) p (p + n) ≠ [116, 114, 117, 101] → wlq (mI M T) p (p + n) ≠ [115, 116, 97, 121] → wlq (mI M T) p (p + n) ≠ [98, 111, 111, 108] → wlq (mI M T) p (p + n) ≠ [105, 110, 105, 116] → mWm G y_Wo_nameSort (d + 5) 142 [vr w, vi p, vi n] [] M Q9 := fun e v3 v4 v5 v6 => ns_test (tgt := 157) hJ (hL (90, "most", [109, 111, 115, 116]) (List.mem_of_getElem? (i := 7) rfl)) hO h (by show p + 4 ≤ N; omega) e d_Wo_nameSort_142 d_Wo_nameSort_143 d_Wo_nameSort_144 d_Wo_nameSort_146 d_Wo_nameSort_149 rfl (fun c => B157 (kw_none (wl_len hlen (by rw [e]; decide)) (wl_len hlen (by rw [e]; decide)) (wl_len hlen (by rw [e]; decide)) v3 v4 v5 v6 c (wl_len hlen (by rw [e]; decide)) (wl_len hlen (by rw [e]; decide)) (wl_len hlen (by rw [e]; decide)) (wl_len hlen (by rw [e]; decide)) (wl_len hlen (by rw [e]; decide)))) (fun c => B152 (by rw [c]; decide))
  have B127 : n = 4 → wlq (mI M T) p (p + n) ≠ [116, 114, 117, 101] → wlq (mI M T) p (p + n) ≠ [115, 116, 97, 121] → wlq (mI M T) p (p + n) ≠ [98, 111, 111, 108] → mWm G y_Wo_nameSort (d + 5) 127 [vr w, vi p, vi n] [] M Q9 := fun e v3 v4 v5 => ns_test (tgt := 142) hJ (hL (88, "init", [105, 110, 105, 116]) (List.mem_of_getElem? (i := 6) rfl)) hO h (by show p + 4 ≤ N; omega) e d_Wo_nameSort_127 d_Wo_nameSort_128 d_Wo_nameSort_129 d_Wo_nameSort_131 d_Wo_nameSort_134 rfl (fun c => B142 e v3 v4 v5 c) (fun c => B137 (by rw [c]; decide))
  have B112 : n = 4 → wlq (mI M T) p (p + n) ≠ [116, 114, 117, 101] → wlq (mI M T) p (p + n) ≠ [115, 116, 97, 121] → mWm G y_Wo_nameSort (d + 5) 112 [vr w, vi p, vi n] [] M Q9 := fun e v3 v4 => ns_test (tgt := 127) hJ (hL (86, "bool", [98, 111, 111, 108]) (List.mem_of_getElem? (i := 5) rfl)) hO h (by show p + 4 ≤ N; omega) e d_Wo_nameSort_112 d_Wo_nameSort_113 d_Wo_nameSort_114 d_Wo_nameSort_116 d_Wo_nameSort_119 rfl (fun c => B127 e v3 v4 c) (fun c => B122 (by rw [c]; decide))
  have B97 : n = 4 → wlq (mI M T) p (p + n) ≠ [116, 114, 117, 101] → mWm G y_Wo_nameSort (d + 5) 97 [vr w, vi p, vi n] [] M Q9 := fun e v3 => ns_test (tgt := 112) hJ (hL (84, "stay", [115, 116, 97, 121]) (List.mem_of_getElem? (i := 4) rfl)) hO h (by show p + 4 ≤ N; omega) e d_Wo_nameSort_97 d_Wo_nameSort_98 d_Wo_nameSort_99 d_Wo_nameSort_101 d_Wo_nameSort_104 rfl (fun c => B112 e v3 c) (fun c => B107 (by rw [c]; decide))
  have B82 : n = 4 → mWm G y_Wo_nameSort (d + 5) 82 [vr w, vi p, vi n] [] M Q9 := fun e => ns_test (tgt := 97) hJ (hL (82, "true", [116, 114, 117, 101]) (List.mem_of_getElem? (i := 3) rfl)) hO h (by show p + 4 ≤ N; omega) e d_Wo_nameSort_82 d_Wo_nameSort_83 d_Wo_nameSort_84 d_Wo_nameSort_86 d_Wo_nameSort_89 rfl (fun c => B97 e c) (fun c => B92 (by rw [c]; decide))
  have B65 : n = 3 → wlq (mI M T) p (p + n) ≠ [118, 97, 114] → wlq (mI M T) p (p + n) ≠ [109, 97, 120] → mWm G y_Wo_nameSort (d + 5) 65 [vr w, vi p, vi n] [] M Q9 := fun e v0 v1 => ns_test (tgt := 80) hJ (hL (80, "min", [109, 105, 110]) (List.mem_of_getElem? (i := 2) rfl)) hO h (by show p + 3 ≤ N; omega) e d_Wo_nameSort_65 d_Wo_nameSort_66 d_Wo_nameSort_67 d_Wo_nameSort_69 d_Wo_nameSort_72 rfl (fun c => B80 (kw_none v0 v1 c (wl_len hlen (by rw [e]; decide)) (wl_len hlen (by rw [e]; decide)) (wl_len hlen (by rw [e]; decide)) (wl_len hlen (by rw [e]; decide)) (wl_len hlen (by rw [e]; decide)) (wl_len hlen (by rw [e]; decide)) (wl_len hlen (by rw [e]; decide)) (wl_len hlen (by rw [e]; decide)) (wl_len hlen (by rw [e]; decide)) (wl_len hlen (by rw [e]; decide)))) (fun c => B75 (by rw [c]; decide))
  have B50 : n = 3 → wlq (mI M T) p (p + n) ≠ [118, 97, 114] → mWm G y_Wo_nameSort (d + 5) 50 [vr w, vi p, vi n] [] M Q9 := fun e v0 => ns_test (tgt := 65) hJ (hL (78, "max", [109, 97, 120]) (List.mem_of_getElem? (i := 1) rfl)) hO h (by show p + 3 ≤ N; omega) e d_Wo_nameSort_50 d_Wo_nameSort_51 d_Wo_nameSort_52 d_Wo_nameSort_54 d_Wo_nameSort_57 rfl (fun c => B65 e v0 c) (fun c => B60 (by rw [c]; decide))
  have B36 : n = 3 → mWm G y_Wo_nameSort (d + 5) 36 [vr w, vi p, vi n] [] M Q9 := fun e => ns_test (tgt := 50) hJ (hL (72, "var", [118, 97, 114]) (List.mem_of_getElem? (i := 0) rfl)) hO h (by show p + 3 ≤ N; omega) e d_Wo_nameSort_36 d_Wo_nameSort_37 d_Wo_nameSort_38 d_Wo_nameSort_40 d_Wo_nameSort_43 rfl (fun c => B50 e c) (fun c => B46 (by rw [c]; decide))
  refine wm_iload_n d_Wo_nameSort_0 rfl rfl ?_
  by_cases c : n < 3 ∨ 7 < n
  · exact wm_tableOut (tgt := 239) d_Wo_nameSort_1 ⟨by omega, by omega⟩ (by omega) rfl (B239 (kw_none (wl_len hlen (by show 3 ≠ n; omega)) (wl_len hlen (by show 3 ≠ n; omega)) (wl_len hlen (by show 3 ≠ n; omega)) (wl_len hlen (by show 4 ≠ n; omega)) (wl_len hlen (by show 4 ≠ n; omega)) (wl_len hlen (by show 4 ≠ n; omega)) (wl_len hlen (by show 4 ≠ n; omega)) (wl_len hlen (by show 4 ≠ n; omega)) (wl_len hlen (by show 5 ≠ n; omega)) (wl_len hlen (by show 5 ≠ n; omega)) (wl_len hlen (by show 5 ≠ n; omega)) (wl_len hlen (by show 6 ≠ n; omega)) (wl_len hlen (by show 7 ≠ n; omega))))
  · have c5 : n = 3 ∨ n = 4 ∨ n = 5 ∨ n = 6 ∨ n = 7 := by omega
    rcases c5 with e | e | e | e | e
    · exact wm_tableIn (tgt := 36) (off := 35) d_Wo_nameSort_1 ⟨by omega, by omega⟩ (by omega) (by omega) (by rw [e]; rfl) rfl (B36 e)
    · exact wm_tableIn (tgt := 82) (off := 81) d_Wo_nameSort_1 ⟨by omega, by omega⟩ (by omega) (by omega) (by rw [e]; rfl) rfl (B82 e)
    · exact wm_tableIn (tgt := 159) (off := 158) d_Wo_nameSort_1 ⟨by omega, by omega⟩ (by omega) (by omega) (by rw [e]; rfl) rfl (B159 e)
    · exact wm_tableIn (tgt := 205) (off := 204) d_Wo_nameSort_1 ⟨by omega, by omega⟩ (by omega) (by omega) (by rw [e]; rfl) rfl (B205 e)
    · exact wm_tableIn (tgt := 222) (off := 221) d_Wo_nameSort_1 ⟨by omega, by omega⟩ (by omega) (by omega) (by rw [e]; rfl) rfl (B222 e)
end
