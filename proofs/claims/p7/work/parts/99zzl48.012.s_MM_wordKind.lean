section
variable {G : mG} {d pc t n w T A B D N C p a : Nat} {f : Nat → Int} {M : mM} {Q : Option mV → mM → Prop}
theorem s_MM_wordKind {f e : Nat} (hJ : JD G) (hL : ∀ q, q ∈ litBM → Lit G "ChanceArenaModel" q.1 q.2.1 q.2.2) (hO : mOk M) (h : Wd M a) (hfe : f ≤ 16384 ∧ f < e ∧ e ≤ f + 40) (hel : (e : Int) ≤ ln M (mR M a 2)) : Ci G y_MM_wordKind (d + 5) [vr a, vi f, vi e] M (fun r M' => M' = M ∧ (1 ≤ r ∧ r ≤ 15 ∧ r ≠ 2) ∧ r = kwq (wlq (nt M (mR M a 2)) f e)) := by
  refine wm_open (y := y_MM_wordKind) rfl (Nat.le_of_ble_eq_true rfl) (L := [vr a, vi f, vi e]) rfl ?_
  refine (?_ : ∀ Q9 : Option mV → mM → Prop, (∀ x : Int, 1 ≤ x → x ≤ 15 → x ≠ 2 → x = kwq (wlq (nt M (mR M a 2)) f e) → Q9 (some (vi x)) M) → mWm G y_MM_wordKind (d + 5) 0 [vr a, vi f, vi e] [] M Q9) _ (fun x a b c e => ⟨x, rfl, rfl, ⟨a, b, c⟩, e⟩)
  intro Q9 hend
  have B115 : kwq (wlq (nt M (mR M a 2)) f e) = 3 → mWm G y_MM_wordKind (d + 5) 115 [vr a, vi f, vi e] [] M Q9 := fun ek => by
    refine wm_iconst d_MM_wordKind_115 ?_
    refine wm_goto (tgt := 120) d_MM_wordKind_116 rfl ?_
    refine wm_ireturn d_MM_wordKind_120 rfl rfl ?_
    exact hend _ (by decide) (by decide) (by decide) (Eq.trans (by decide) ek.symm)
  have B119 : kwq (wlq (nt M (mR M a 2)) f e) = 1 → mWm G y_MM_wordKind (d + 5) 119 [vr a, vi f, vi e] [] M Q9 := fun ek => by
    refine wm_iconst d_MM_wordKind_119 ?_
    refine wm_ireturn d_MM_wordKind_120 rfl rfl ?_
    exact hend _ (by decide) (by decide) (by decide) (Eq.trans (by decide) ek.symm)
  have B132 : kwq (wlq (nt M (mR M a 2)) f e) = 4 → mWm G y_MM_wordKind (d + 5) 132 [vr a, vi f, vi e] [] M Q9 := fun ek => by
    refine wm_iconst d_MM_wordKind_132 ?_
    refine wm_goto (tgt := 137) d_MM_wordKind_133 rfl ?_
    refine wm_ireturn d_MM_wordKind_137 rfl rfl ?_
    exact hend _ (by decide) (by decide) (by decide) (Eq.trans (by decide) ek.symm)
  have B136 : kwq (wlq (nt M (mR M a 2)) f e) = 1 → mWm G y_MM_wordKind (d + 5) 136 [vr a, vi f, vi e] [] M Q9 := fun ek => by
    refine wm_iconst d_MM_wordKind_136 ?_
    refine wm_ireturn d_MM_wordKind_137 rfl rfl ?_
    exact hend _ (by decide) (by decide) (by decide) (Eq.trans (by decide) ek.symm)
  have B149 : kwq (wlq (nt M (mR M a 2)) f e) = 5 → mWm G y_MM_wordKind (d + 5) 149 [vr a, vi f, vi e] [] M Q9 := fun ek => by
    refine wm_iconst d_MM_wordKind_149 ?_
    refine wm_goto (tgt := 154) d_MM_wordKind_150 rfl ?_
    refine wm_ireturn d_MM_wordKind_154 rfl rfl ?_
    exact hend _ (by decide) (by decide) (by decide) (Eq.trans (by decide) ek.symm)
  have B153 : kwq (wlq (nt M (mR M a 2)) f e) = 1 → mWm G y_MM_wordKind (d + 5) 153 [vr a, vi f, vi e] [] M Q9 := fun ek => by
    refine wm_iconst d_MM_wordKind_153 ?_
    refine wm_ireturn d_MM_wordKind_154 rfl rfl ?_
    exact hend _ (by decide) (by decide) (by decide) (Eq.trans (by decide) ek.symm)
  have B166 : kwq (wlq (nt M (mR M a 2)) f e) = 6 → mWm G y_MM_wordKind (d + 5) 166 [vr a, vi f, vi e] [] M Q9 := fun ek => by
    refine wm_bipush d_MM_wordKind_166 (by decide) ?_
    refine wm_goto (tgt := 188) d_MM_wordKind_168 rfl ?_
    refine wm_ireturn d_MM_wordKind_188 rfl rfl ?_
    exact hend _ (by decide) (by decide) (by decide) (Eq.trans (by decide) ek.symm)
  have B182 : kwq (wlq (nt M (mR M a 2)) f e) = 13 → mWm G y_MM_wordKind (d + 5) 182 [vr a, vi f, vi e] [] M Q9 := fun ek => by
    refine wm_bipush d_MM_wordKind_182 (by decide) ?_
    refine wm_goto (tgt := 188) d_MM_wordKind_184 rfl ?_
    refine wm_ireturn d_MM_wordKind_188 rfl rfl ?_
    exact hend _ (by decide) (by decide) (by decide) (Eq.trans (by decide) ek.symm)
  have B187 : kwq (wlq (nt M (mR M a 2)) f e) = 1 → mWm G y_MM_wordKind (d + 5) 187 [vr a, vi f, vi e] [] M Q9 := fun ek => by
    refine wm_iconst d_MM_wordKind_187 ?_
    refine wm_ireturn d_MM_wordKind_188 rfl rfl ?_
    exact hend _ (by decide) (by decide) (by decide) (Eq.trans (by decide) ek.symm)
  have B200 : kwq (wlq (nt M (mR M a 2)) f e) = 7 → mWm G y_MM_wordKind (d + 5) 200 [vr a, vi f, vi e] [] M Q9 := fun ek => by
    refine wm_bipush d_MM_wordKind_200 (by decide) ?_
    refine wm_goto (tgt := 238) d_MM_wordKind_202 rfl ?_
    refine wm_ireturn d_MM_wordKind_238 rfl rfl ?_
    exact hend _ (by decide) (by decide) (by decide) (Eq.trans (by decide) ek.symm)
  have B216 : kwq (wlq (nt M (mR M a 2)) f e) = 8 → mWm G y_MM_wordKind (d + 5) 216 [vr a, vi f, vi e] [] M Q9 := fun ek => by
    refine wm_bipush d_MM_wordKind_216 (by decide) ?_
    refine wm_goto (tgt := 238) d_MM_wordKind_218 rfl ?_
    refine wm_ireturn d_MM_wordKind_238 rfl rfl ?_
    exact hend _ (by decide) (by decide) (by decide) (Eq.trans (by decide) ek.symm)
  have B232 : kwq (wlq (nt M (mR M a 2)) f e) = 15 → mWm G y_MM_wordKind (d + 5) 232 [vr a, vi f, vi e] [] M Q9 := fun ek => by
    refine wm_bipush d_MM_wordKind_232 (by decide) ?_
    refine wm_goto (tgt := 238) d_MM_wordKind_234 rfl ?_
    refine wm_ireturn d_MM_wordKind_238 rfl rfl ?_
    exact hend _ (by decide) (by decide) (by decide) (Eq.trans (by decide) ek.symm)
  have B237 : kwq (wlq (nt M (mR M a 2)) f e) = 1 → mWm G y_MM_wordKind (d + 5) 237 [vr a, vi f, vi e] [] M Q9 := fun ek => by
    refine wm_iconst d_MM_wordKind_237 ?_
    refine wm_ireturn d_MM_wordKind_238 rfl rfl ?_
    exact hend _ (by decide) (by decide) (by decide) (Eq.trans (by decide) ek.symm)
  have B250 : kwq (wlq (nt M (mR M a 2)) f e) = 9 → mWm G y_MM_wordKind (d + 5) 250 [vr a, vi f, vi e] [] M Q9 := fun ek => by
    refine wm_bipush d_MM_wordKind_250 (by decide) ?_
    refine wm_goto (tgt := 256) d_MM_wordKind_252 rfl ?_
    refine wm_ireturn d_MM_wordKind_256 rfl rfl ?_
    exact hend _ (by decide) (by decide) (by decide) (Eq.trans (by decide) ek.symm)
  have B255 : kwq (wlq (nt M (mR M a 2)) f e) = 1 → mWm G y_MM_wordKind (d + 5) 255 [vr a, vi f, vi e] [] M Q9 := fun ek => by
    refine wm_iconst d_MM_wordKind_255 ?_
    refine wm_ireturn d_MM_wordKind_256 rfl rfl ?_
    exact hend _ (by decide) (by decide) (by decide) (Eq.trans (by decide) ek.symm)
  have B268 : kwq (wlq (nt M (mR M a 2)) f e) = 10 → mWm G y_MM_wordKind (d + 5) 268 [vr a, vi f, vi e] [] M Q9 := fun ek => by
    refine wm_bipush d_MM_wordKind_268 (by decide) ?_
    refine wm_goto (tgt := 274) d_MM_wordKind_270 rfl ?_
    refine wm_ireturn d_MM_wordKind_274 rfl rfl ?_
    exact hend _ (by decide) (by decide) (by decide) (Eq.trans (by decide) ek.symm)
  have B273 : kwq (wlq (nt M (mR M a 2)) f e) = 1 → mWm G y_MM_wordKind (d + 5) 273 [vr a, vi f, vi e] [] M Q9 := fun ek => by
    refine wm_iconst d_MM_wordKind_273 ?_
    refine wm_ireturn d_MM_wordKind_274 rfl rfl ?_
    exact hend _ (by decide) (by decide) (by decide) (Eq.trans (by decide) ek.symm)
  have B286 : kwq (wlq (nt M (mR M a 2)) f e) = 11 → mWm G y_MM_wordKind (d + 5) 286 [vr a, vi f, vi e] [] M Q9 := fun ek => by
    refine wm_bipush d_MM_wordKind_286 (by decide) ?_
    refine wm_goto (tgt := 308) d_MM_wordKind_288 rfl ?_
    refine wm_ireturn d_MM_wordKind_308 rfl rfl ?_
    exact hend _ (by decide) (by decide) (by decide) (Eq.trans (by decide) ek.symm)
  have B302 : kwq (wlq (nt M (mR M a 2)) f e) = 12 → mWm G y_MM_wordKind (d + 5) 302 [vr a, vi f, vi e] [] M Q9 := fun ek => by
    refine wm_bipush d_MM_wordKind_302 (by decide) ?_
    refine wm_goto (tgt := 308) d_MM_wordKind_304 rfl ?_
    refine wm_ireturn d_MM_wordKind_308 rfl rfl ?_
    exact hend _ (by decide) (by decide) (by decide) (Eq.trans (by decide) ek.symm)
  have B307 : kwq (wlq (nt M (mR M a 2)) f e) = 1 → mWm G y_MM_wordKind (d + 5) 307 [vr a, vi f, vi e] [] M Q9 := fun ek => by
    refine wm_iconst d_MM_wordKind_307 ?_
    refine wm_ireturn d_MM_wordKind_308 rfl rfl ?_
    exact hend _ (by decide) (by decide) (by decide) (Eq.trans (by decide) ek.symm)
  have B320 : kwq (wlq (nt M (mR M a 2)) f e) = 14 → mWm G y_MM_wordKind (d + 5) 320 [vr a, vi f, vi e] [] M Q9 := fun ek => by
    refine wm_bipush d_MM_wordKind_320 (by decide) ?_
    refine wm_goto (tgt := 326) d_MM_wordKind_322 rfl ?_
    refine wm_ireturn d_MM_wordKind_326 rfl rfl ?_
    exact hend _ (by decide) (by decide) (by decide) (Eq.trans (by decide) ek.symm)
  have B325 : kwq (wlq (nt M (mR M a 2)) f e) = 1 → mWm G y_MM_wordKind (d + 5) 325 [vr a, vi f, vi e] [] M Q9 := fun ek => by
    refine wm_iconst d_MM_wordKind_325 ?_
    refine wm_ireturn d_MM_wordKind_326 rfl rfl ?_
    exact hend _ (by decide) (by decide) (by decide) (Eq.trans (by decide) ek.symm)
  have B327 : kwq (wlq (nt M (mR M a 2)) f e) = 1 → mWm G y_MM_wordKind (d + 5) 327 [vr a, vi f, vi e] [] M Q9 := fun ek => by
    refine wm_iconst d_MM_wordKind_327 ?_
    refine wm_ireturn d_MM_wordKind_328 rfl rfl ?_
    exact hend _ (by decide) (by decide) (by decide) (Eq.trans (by decide) ek.symm)
  have B309 : (wlq (nt M (mR M a 2)) f e).head? = some 108 → mWm G y_MM_wordKind (d + 5) 309 [vr a, vi f, vi e] [] M Q9 := fun hh => wk_test (tgt := 325) hJ (hL (204, "least", [108, 101, 97, 115, 116]) (List.mem_of_getElem? (i := 12) rfl)) hO h hfe hel d_MM_wordKind_309 d_MM_wordKind_310 d_MM_wordKind_311 d_MM_wordKind_312 d_MM_wordKind_314 d_MM_wordKind_317 rfl (fun c => B325 (kw_none (wl_hd hh (by decide)) (wl_hd hh (by decide)) (wl_hd hh (by decide)) (wl_hd hh (by decide)) (wl_hd hh (by decide)) (wl_hd hh (by decide)) (wl_hd hh (by decide)) (wl_hd hh (by decide)) (wl_hd hh (by decide)) (wl_hd hh (by decide)) c (wl_hd hh (by decide)) (wl_hd hh (by decide)))) (fun c => B320 (by rw [c]; decide))
  have B291 : (wlq (nt M (mR M a 2)) f e).head? = some 116 → wlq (nt M (mR M a 2)) f e ≠ [116, 97, 114, 103, 101, 116] → mWm G y_MM_wordKind (d + 5) 291 [vr a, vi f, vi e] [] M Q9 := fun hh v11 => wk_test (tgt := 307) hJ (hL (202, "true", [116, 114, 117, 101]) (List.mem_of_getElem? (i := 11) rfl)) hO h hfe hel d_MM_wordKind_291 d_MM_wordKind_292 d_MM_wordKind_293 d_MM_wordKind_294 d_MM_wordKind_296 d_MM_wordKind_299 rfl (fun c => B307 (kw_none (wl_hd hh (by decide)) (wl_hd hh (by decide)) (wl_hd hh (by decide)) c (wl_hd hh (by decide)) (wl_hd hh (by decide)) (wl_hd hh (by decide)) (wl_hd hh (by decide)) (wl_hd hh (by decide)) (wl_hd hh (by decide)) (wl_hd hh (by decide)) v11 (wl_hd hh (by decide)))) (fun c => B302 (by rw [c]; decide))
  have B275 : (wlq (nt M (mR M a 2)) f e).head? = some 116 → mWm G y_MM_wordKind (d + 5) 275 [vr a, vi f, vi e] [] M Q9 := fun hh => wk_test (tgt := 291) hJ (hL (200, "target", [116, 97, 114, 103, 101, 116]) (List.mem_of_getElem? (i := 10) rfl)) hO h hfe hel d_MM_wordKind_275 d_MM_wordKind_276 d_MM_wordKind_277 d_MM_wordKind_278 d_MM_wordKind_280 d_MM_wordKind_283 rfl (fun c => B291 hh c) (fun c => B286 (by rw [c]; decide))
  have B257 : (wlq (nt M (mR M a 2)) f e).head? = some 115 → mWm G y_MM_wordKind (d + 5) 257 [vr a, vi f, vi e] [] M Q9 := fun hh => wk_test (tgt := 273) hJ (hL (198, "stay", [115, 116, 97, 121]) (List.mem_of_getElem? (i := 9) rfl)) hO h hfe hel d_MM_wordKind_257 d_MM_wordKind_258 d_MM_wordKind_259 d_MM_wordKind_260 d_MM_wordKind_262 d_MM_wordKind_265 rfl (fun c => B273 (kw_none (wl_hd hh (by decide)) (wl_hd hh (by decide)) (wl_hd hh (by decide)) (wl_hd hh (by decide)) c (wl_hd hh (by decide)) (wl_hd hh (by decide)) (wl_hd hh (by decide)) (wl_hd hh (by decide)) (wl_hd hh (by decide)) (wl_hd hh (by decide)) (wl_hd hh (by decide)) (wl_hd hh (by decide)))) (fun c => B268 (by rw [c]; decide))
  have B239 : (wlq (nt M (mR M a 2)) f e).head? = some 105 → mWm G y_MM_wordKind (d + 5) 239 [vr a, vi f, vi e] [] M Q9 := fun hh => wk_test (tgt := 255) hJ (hL (196, "init", [105, 110, 105, 116]) (List.mem_of_getElem? (i := 8) rfl)) hO h hfe hel d_MM_wordKind_239 d_MM_wordKind_240 d_MM_wordKind_241 d_MM_wordKind_242 d_MM_wordKind_244 d_MM_wordKind_247 rfl (fun c => B255 (kw_none (wl_hd hh (by decide)) (wl_hd hh (by decide)) (wl_hd hh (by decide)) (wl_hd hh (by decide)) (wl_hd hh (by decide)) (wl_hd hh (by decide)) c (wl_hd hh (by decide)) (wl_hd hh (by decide)) (wl_hd hh (by decide)) (wl_hd hh (by decide)) (wl_hd hh (by decide)) (wl_hd hh (by decide)))) (fun c => B250 (by rw [c]; decide))
  have B221 : (wlq (nt M (mR M a 2)) f e).head? = some 109 → wlq (nt M (mR M a 2)) f e ≠ [109, 97, 120] → wlq (nt M (mR M a 2)) f e ≠ [109, 105, 110] → mWm G y_MM_wordKind (d + 5) 221 [vr a, vi f, vi e] [] M Q9 := fun hh v1 v2 => wk_test (tgt := 237) hJ (hL (194, "most", [109, 111, 115, 116]) (List.mem_of_getElem? (i := 7) rfl)) hO h hfe hel d_MM_wordKind_221 d_MM_wordKind_222 d_MM_wordKind_223 d_MM_wordKind_224 d_MM_wordKind_226 d_MM_wordKind_229 rfl (fun c => B237 (kw_none (wl_hd hh (by decide)) v1 v2 (wl_hd hh (by decide)) (wl_hd hh (by decide)) (wl_hd hh (by decide)) (wl_hd hh (by decide)) c (wl_hd hh (by decide)) (wl_hd hh (by decide)) (wl_hd hh (by decide)) (wl_hd hh (by decide)) (wl_hd hh (by decide)))) (fun c => B232 (by rw [c]; decide))
  have B205 : (wlq (nt M (mR M a 2)) f e).head? = some 109 → wlq (nt M (mR M a 2)) f e ≠ [109, 97, 120] → mWm G y_MM_wordKind (d + 5) 205 [vr a, vi f, vi e] [] M Q9 := fun hh v1 => wk_test (tgt := 221) hJ (hL (192, "min", [109, 105, 110]) (List.mem_of_getElem? (i := 6) rfl)) hO h hfe hel d_MM_wordKind_205 d_MM_wordKind_206 d_MM_wordKind_207 d_MM_wordKind_208 d_MM_wordKind_210 d_MM_wordKind_213 rfl (fun c => B221 hh v1 c) (fun c => B216 (by rw [c]; decide))
  have B189 : (wlq (nt M (mR M a 2)) f e).head? = some 109 → mWm G y_MM_wordKind (d + 5) 189 [vr a, vi f, vi e] [] M Q9 := fun hh => wk_test (tgt := 205) hJ (hL (190, "max", [109, 97, 120]) (List.mem_of_getElem? (i := 5) rfl)) hO h hfe hel d_MM_wordKind_189 d_MM_wordKind_190 d_MM_wordKind_191 d_MM_wordKind_192 d_MM_wordKind_194 d_MM_wordKind_197 rfl (fun c => B205 hh c) (fun c => B200 (by rw [c]; decide))
  have B171 : (wlq (nt M (mR M a 2)) f e).head? = some 102 → wlq (nt M (mR M a 2)) f e ≠ [102, 111, 114, 109, 117, 108, 97] → mWm G y_MM_wordKind (d + 5) 171 [vr a, vi f, vi e] [] M Q9 := fun hh v12 => wk_test (tgt := 187) hJ (hL (188, "false", [102, 97, 108, 115, 101]) (List.mem_of_getElem? (i := 4) rfl)) hO h hfe hel d_MM_wordKind_171 d_MM_wordKind_172 d_MM_wordKind_173 d_MM_wordKind_174 d_MM_wordKind_176 d_MM_wordKind_179 rfl (fun c => B187 (kw_none (wl_hd hh (by decide)) (wl_hd hh (by decide)) (wl_hd hh (by decide)) (wl_hd hh (by decide)) (wl_hd hh (by decide)) (wl_hd hh (by decide)) (wl_hd hh (by decide)) (wl_hd hh (by decide)) (wl_hd hh (by decide)) c (wl_hd hh (by decide)) (wl_hd hh (by decide)) v12)) (fun c => B182 (by rw [c]; decide))
  have B155 : (wlq (nt M (mR M a 2)) f e).head? = some 102 → mWm G y_MM_wordKind (d + 5) 155 [vr a, vi f, vi e] [] M Q9 := fun hh => wk_test (tgt := 171) hJ (hL (186, "formula", [102, 111, 114, 109, 117, 108, 97]) (List.mem_of_getElem? (i := 3) rfl)) hO h hfe hel d_MM_wordKind_155 d_MM_wordKind_156 d_MM_wordKind_157 d_MM_wordKind_158 d_MM_wordKind_160 d_MM_wordKind_163 rfl (fun c => B171 hh c) (fun c => B166 (by rw [c]; decide))
  have B138 : (wlq (nt M (mR M a 2)) f e).head? = some 98 → mWm G y_MM_wordKind (d + 5) 138 [vr a, vi f, vi e] [] M Q9 := fun hh => wk_test (tgt := 153) hJ (hL (184, "bool", [98, 111, 111, 108]) (List.mem_of_getElem? (i := 2) rfl)) hO h hfe hel d_MM_wordKind_138 d_MM_wordKind_139 d_MM_wordKind_140 d_MM_wordKind_141 d_MM_wordKind_143 d_MM_wordKind_146 rfl (fun c => B153 (kw_none (wl_hd hh (by decide)) (wl_hd hh (by decide)) (wl_hd hh (by decide)) (wl_hd hh (by decide)) (wl_hd hh (by decide)) c (wl_hd hh (by decide)) (wl_hd hh (by decide)) (wl_hd hh (by decide)) (wl_hd hh (by decide)) (wl_hd hh (by decide)) (wl_hd hh (by decide)) (wl_hd hh (by decide)))) (fun c => B149 (by rw [c]; decide))
  have B121 : (wlq (nt M (mR M a 2)) f e).head? = some 118 → mWm G y_MM_wordKind (d + 5) 121 [vr a, vi f, vi e] [] M Q9 := fun hh => wk_test (tgt := 136) hJ (hL (182, "var", [118, 97, 114]) (List.mem_of_getElem? (i := 1) rfl)) hO h hfe hel d_MM_wordKind_121 d_MM_wordKind_122 d_MM_wordKind_123 d_MM_wordKind_124 d_MM_wordKind_126 d_MM_wordKind_129 rfl (fun c => B136 (kw_none c (wl_hd hh (by decide)) (wl_hd hh (by decide)) (wl_hd hh (by decide)) (wl_hd hh (by decide)) (wl_hd hh (by decide)) (wl_hd hh (by decide)) (wl_hd hh (by decide)) (wl_hd hh (by decide)) (wl_hd hh (by decide)) (wl_hd hh (by decide)) (wl_hd hh (by decide)) (wl_hd hh (by decide)))) (fun c => B132 (by rw [c]; decide))
  have B104 : (wlq (nt M (mR M a 2)) f e).head? = some 99 → mWm G y_MM_wordKind (d + 5) 104 [vr a, vi f, vi e] [] M Q9 := fun hh => wk_test (tgt := 119) hJ (hL (176, "const", [99, 111, 110, 115, 116]) (List.mem_of_getElem? (i := 0) rfl)) hO h hfe hel d_MM_wordKind_104 d_MM_wordKind_105 d_MM_wordKind_106 d_MM_wordKind_107 d_MM_wordKind_109 d_MM_wordKind_112 rfl (fun c => B119 (kw_none (wl_hd hh (by decide)) (wl_hd hh (by decide)) (wl_hd hh (by decide)) (wl_hd hh (by decide)) (wl_hd hh (by decide)) (wl_hd hh (by decide)) (wl_hd hh (by decide)) (wl_hd hh (by decide)) c (wl_hd hh (by decide)) (wl_hd hh (by decide)) (wl_hd hh (by decide)) (wl_hd hh (by decide)))) (fun c => B115 (by rw [c]; decide))
  refine wm_aload_n d_MM_wordKind_0 rfl rfl ?_
  refine wm_iload_n d_MM_wordKind_1 rfl rfl ?_
  refine cf_MM_159 rfl d_MM_wordKind_2 h.1.1 (Nat.le_of_ble_eq_true rfl) ?_
  refine (s_MM_letter (d := d + 3) (by omega) hO h).mono (fun x M' q => ?_)
  obtain ⟨eM, hx⟩ := q
  have ix : i32 x := by rw [hx]; exact lt_i32 hO
  rw [eM]
  have hh : (wlq (nt M (mR M a 2)) f e).head? = some x := by
    rw [wlq_hd hfe.2.1, hx]
    unfold lt
    rw [if_pos (by omega)]
  clear hx
  by_cases c : x < 98 ∨ 118 < x
  · exact wm_tableOut (tgt := 327) d_MM_wordKind_5 ix c rfl (B327 (kw_none (wl_hd hh (by intro u; have u : (118 : Int) = x := Option.some.inj u; omega)) (wl_hd hh (by intro u; have u : (109 : Int) = x := Option.some.inj u; omega)) (wl_hd hh (by intro u; have u : (109 : Int) = x := Option.some.inj u; omega)) (wl_hd hh (by intro u; have u : (116 : Int) = x := Option.some.inj u; omega)) (wl_hd hh (by intro u; have u : (115 : Int) = x := Option.some.inj u; omega)) (wl_hd hh (by intro u; have u : (98 : Int) = x := Option.some.inj u; omega)) (wl_hd hh (by intro u; have u : (105 : Int) = x := Option.some.inj u; omega)) (wl_hd hh (by intro u; have u : (109 : Int) = x := Option.some.inj u; omega)) (wl_hd hh (by intro u; have u : (99 : Int) = x := Option.some.inj u; omega)) (wl_hd hh (by intro u; have u : (102 : Int) = x := Option.some.inj u; omega)) (wl_hd hh (by intro u; have u : (108 : Int) = x := Option.some.inj u; omega)) (wl_hd hh (by intro u; have u : (116 : Int) = x := Option.some.inj u; omega)) (wl_hd hh (by intro u; have u : (102 : Int) = x := Option.some.inj u; omega))))
  · have c5 : x = 98 ∨ x = 99 ∨ x = 100 ∨ x = 101 ∨ x = 102 ∨ x = 103 ∨ x = 104 ∨ x = 105 ∨ x = 106 ∨ x = 107 ∨ x = 108 ∨ x = 109 ∨ x = 110 ∨ x = 111 ∨ x = 112 ∨ x = 113 ∨ x = 114 ∨ x = 115 ∨ x = 116 ∨ x = 117 ∨ x = 118 := by omega
    rcases c5 with rfl | rfl | rfl | rfl | rfl | rfl | rfl | rfl | rfl | rfl | rfl | rfl | rfl | rfl | rfl | rfl | rfl | rfl | rfl | rfl | rfl
    · exact wm_tableIn (tgt := 138) (off := 133) d_MM_wordKind_5 ix (by decide) (by decide) rfl rfl (B138 hh)
    · exact wm_tableIn (tgt := 104) (off := 99) d_MM_wordKind_5 ix (by decide) (by decide) rfl rfl (B104 hh)
    · exact wm_tableIn (tgt := 327) (off := 322) d_MM_wordKind_5 ix (by decide) (by decide) rfl rfl (B327 (kw_none (wl_hd hh (by decide)) (wl_hd hh (by decide)) (wl_hd hh (by decide)) (wl_hd hh (by decide)) (wl_hd hh (by decide)) (wl_hd hh (by decide)) (wl_hd hh (by decide)) (wl_hd hh (by decide)) (wl_hd hh (by decide)) (wl_hd hh (by decide)) (wl_hd hh (by decide)) (wl_hd hh (by decide)) (wl_hd hh (by decide))))
    · exact wm_tableIn (tgt := 327) (off := 322) d_MM_wordKind_5 ix (by decide) (by decide) rfl rfl (B327 (kw_none (wl_hd hh (by decide)) (wl_hd hh (by decide)) (wl_hd hh (by decide)) (wl_hd hh (by decide)) (wl_hd hh (by decide)) (wl_hd hh (by decide)) (wl_hd hh (by decide)) (wl_hd hh (by decide)) (wl_hd hh (by decide)) (wl_hd hh (by decide)) (wl_hd hh (by decide)) (wl_hd hh (by decide)) (wl_hd hh (by decide))))
    · exact wm_tableIn (tgt := 155) (off := 150) d_MM_wordKind_5 ix (by decide) (by decide) rfl rfl (B155 hh)
    · exact wm_tableIn (tgt := 327) (off := 322) d_MM_wordKind_5 ix (by decide) (by decide) rfl rfl (B327 (kw_none (wl_hd hh (by decide)) (wl_hd hh (by decide)) (wl_hd hh (by decide)) (wl_hd hh (by decide)) (wl_hd hh (by decide)) (wl_hd hh (by decide)) (wl_hd hh (by decide)) (wl_hd hh (by decide)) (wl_hd hh (by decide)) (wl_hd hh (by decide)) (wl_hd hh (by decide)) (wl_hd hh (by decide)) (wl_hd hh (by decide))))
    · exact wm_tableIn (tgt := 327) (off := 322) d_MM_wordKind_5 ix (by decide) (by decide) rfl rfl (B327 (kw_none (wl_hd hh (by decide)) (wl_hd hh (by decide)) (wl_hd hh (by decide)) (wl_hd hh (by decide)) (wl_hd hh (by decide)) (wl_hd hh (by decide)) (wl_hd hh (by decide)) (wl_hd hh (by decide)) (wl_hd hh (by decide)) (wl_hd hh (by decide)) (wl_hd hh (by decide)) (wl_hd hh (by decide)) (wl_hd hh (by decide))))
    · exact wm_tableIn (tgt := 239) (off := 234) d_MM_wordKind_5 ix (by decide) (by decide) rfl rfl (B239 hh)
    · exact wm_tableIn (tgt := 327) (off := 322) d_MM_wordKind_5 ix (by decide) (by decide) rfl rfl (B327 (kw_none (wl_hd hh (by decide)) (wl_hd hh (by decide)) (wl_hd hh (by decide)) (wl_hd hh (by decide)) (wl_hd hh (by decide)) (wl_hd hh (by decide)) (wl_hd hh (by decide)) (wl_hd hh (by decide)) (wl_hd hh (by decide)) (wl_hd hh (by decide)) (wl_hd hh (by decide)) (wl_hd hh (by decide)) (wl_hd hh (by decide))))
    · exact wm_tableIn (tgt := 327) (off := 322) d_MM_wordKind_5 ix (by decide) (by decide) rfl rfl (B327 (kw_none (wl_hd hh (by decide)) (wl_hd hh (by decide)) (wl_hd hh (by decide)) (wl_hd hh (by decide)) (wl_hd hh (by decide)) (wl_hd hh (by decide)) (wl_hd hh (by decide)) (wl_hd hh (by decide)) (wl_hd hh (by decide)) (wl_hd hh (by decide)) (wl_hd hh (by decide)) (wl_hd hh (by decide)) (wl_hd hh (by decide))))
    · exact wm_tableIn (tgt := 309) (off := 304) d_MM_wordKind_5 ix (by decide) (by decide) rfl rfl (B309 hh)
    · exact wm_tableIn (tgt := 189) (off := 184) d_MM_wordKind_5 ix (by decide) (by decide) rfl rfl (B189 hh)
    · exact wm_tableIn (tgt := 327) (off := 322) d_MM_wordKind_5 ix (by decide) (by decide) rfl rfl (B327 (kw_none (wl_hd hh (by decide)) (wl_hd hh (by decide)) (wl_hd hh (by decide)) (wl_hd hh (by decide)) (wl_hd hh (by decide)) (wl_hd hh (by decide)) (wl_hd hh (by decide)) (wl_hd hh (by decide)) (wl_hd hh (by decide)) (wl_hd hh (by decide)) (wl_hd hh (by decide)) (wl_hd hh (by decide)) (wl_hd hh (by decide))))
    · exact wm_tableIn (tgt := 327) (off := 322) d_MM_wordKind_5 ix (by decide) (by decide) rfl rfl (B327 (kw_none (wl_hd hh (by decide)) (wl_hd hh (by decide)) (wl_hd hh (by decide)) (wl_hd hh (by decide)) (wl_hd hh (by decide)) (wl_hd hh (by decide)) (wl_hd hh (by decide)) (wl_hd hh (by decide)) (wl_hd hh (by decide)) (wl_hd hh (by decide)) (wl_hd hh (by decide)) (wl_hd hh (by decide)) (wl_hd hh (by decide))))
    · exact wm_tableIn (tgt := 327) (off := 322) d_MM_wordKind_5 ix (by decide) (by decide) rfl rfl (B327 (kw_none (wl_hd hh (by decide)) (wl_hd hh (by decide)) (wl_hd hh (by decide)) (wl_hd hh (by decide)) (wl_hd hh (by decide)) (wl_hd hh (by decide)) (wl_hd hh (by decide)) (wl_hd hh (by decide)) (wl_hd hh (by decide)) (wl_hd hh (by decide)) (wl_hd hh (by decide)) (wl_hd hh (by decide)) (wl_hd hh (by decide))))
    · exact wm_tableIn (tgt := 327) (off := 322) d_MM_wordKind_5 ix (by decide) (by decide) rfl rfl (B327 (kw_none (wl_hd hh (by decide)) (wl_hd hh (by decide)) (wl_hd hh (by decide)) (wl_hd hh (by decide)) (wl_hd hh (by decide)) (wl_hd hh (by decide)) (wl_hd hh (by decide)) (wl_hd hh (by decide)) (wl_hd hh (by decide)) (wl_hd hh (by decide)) (wl_hd hh (by decide)) (wl_hd hh (by decide)) (wl_hd hh (by decide))))
    · exact wm_tableIn (tgt := 327) (off := 322) d_MM_wordKind_5 ix (by decide) (by decide) rfl rfl (B327 (kw_none (wl_hd hh (by decide)) (wl_hd hh (by decide)) (wl_hd hh (by decide)) (wl_hd hh (by decide)) (wl_hd hh (by decide)) (wl_hd hh (by decide)) (wl_hd hh (by decide)) (wl_hd hh (by decide)) (wl_hd hh (by decide)) (wl_hd hh (by decide)) (wl_hd hh (by decide)) (wl_hd hh (by decide)) (wl_hd hh (by decide))))
    · exact wm_tableIn (tgt := 257) (off := 252) d_MM_wordKind_5 ix (by decide) (by decide) rfl rfl (B257 hh)
    · exact wm_tableIn (tgt := 275) (off := 270) d_MM_wordKind_5 ix (by decide) (by decide) rfl rfl (B275 hh)
    · exact wm_tableIn (tgt := 327) (off := 322) d_MM_wordKind_5 ix (by decide) (by decide) rfl rfl (B327 (kw_none (wl_hd hh (by decide)) (wl_hd hh (by decide)) (wl_hd hh (by decide)) (wl_hd hh (by decide)) (wl_hd hh (by decide)) (wl_hd hh (by decide)) (wl_hd hh (by decide)) (wl_hd hh (by decide)) (wl_hd hh (by decide)) (wl_hd hh (by decide)) (wl_hd hh (by decide)) (wl_hd hh (by decide)) (wl_hd hh (by decide))))
    · exact wm_tableIn (tgt := 121) (off := 116) d_MM_wordKind_5 ix (by decide) (by decide) rfl rfl (B121 hh)
end
