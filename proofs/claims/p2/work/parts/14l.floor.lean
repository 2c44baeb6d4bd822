section
/-! Math.floorMod. -/
theorem d_JM_floorMod_0 : decode y_JM_floorMod.2.1 0 = .ok (.lload_n 0, 1) := dc9_30 (by decide +kernel)
theorem d_JM_floorMod_1 : decode y_JM_floorMod.2.1 1 = .ok (.lload_n 2, 1) := dc9_32 (by decide +kernel)
theorem d_JM_floorMod_2 : decode y_JM_floorMod.2.1 2 = .ok (.lrem, 1) := dc9_113 (by decide +kernel)
theorem d_JM_floorMod_3 : decode y_JM_floorMod.2.1 3 = .ok (.lstore 4, 2) := dc9_55 (by decide +kernel)
theorem d_JM_floorMod_5 : decode y_JM_floorMod.2.1 5 = .ok (.lload_n 0, 1) := dc9_30 (by decide +kernel)
theorem d_JM_floorMod_6 : decode y_JM_floorMod.2.1 6 = .ok (.lload_n 2, 1) := dc9_32 (by decide +kernel)
theorem d_JM_floorMod_7 : decode y_JM_floorMod.2.1 7 = .ok (.lxor, 1) := by decide +kernel
theorem d_JM_floorMod_8 : decode y_JM_floorMod.2.1 8 = .ok (.lconst 0, 1) := dc9_9 (by decide +kernel)
theorem d_JM_floorMod_9 : decode y_JM_floorMod.2.1 9 = .ok (.lcmp, 1) := dc9_148 (by decide +kernel)
theorem d_JM_floorMod_10 : decode y_JM_floorMod.2.1 10 = .ok (.ifCond .ge 15, 3) := dc9_156 (by decide +kernel)
theorem d_JM_floorMod_13 : decode y_JM_floorMod.2.1 13 = .ok (.lload 4, 2) := dc9_22 (by decide +kernel)
theorem d_JM_floorMod_15 : decode y_JM_floorMod.2.1 15 = .ok (.lconst 0, 1) := dc9_9 (by decide +kernel)
theorem d_JM_floorMod_16 : decode y_JM_floorMod.2.1 16 = .ok (.lcmp, 1) := dc9_148 (by decide +kernel)
theorem d_JM_floorMod_17 : decode y_JM_floorMod.2.1 17 = .ok (.ifCond .eq 8, 3) := dc9_153 (by decide +kernel)
theorem d_JM_floorMod_20 : decode y_JM_floorMod.2.1 20 = .ok (.lload 4, 2) := dc9_22 (by decide +kernel)
theorem d_JM_floorMod_22 : decode y_JM_floorMod.2.1 22 = .ok (.lload_n 2, 1) := dc9_32 (by decide +kernel)
theorem d_JM_floorMod_23 : decode y_JM_floorMod.2.1 23 = .ok (.ladd, 1) := dc9_97 (by decide +kernel)
theorem d_JM_floorMod_24 : decode y_JM_floorMod.2.1 24 = .ok (.lreturn, 1) := dc9_173 (by decide +kernel)
theorem d_JM_floorMod_25 : decode y_JM_floorMod.2.1 25 = .ok (.lload 4, 2) := dc9_22 (by decide +kernel)
theorem d_JM_floorMod_27 : decode y_JM_floorMod.2.1 27 = .ok (.lreturn, 1) := dc9_173 (by decide +kernel)
theorem Met.ofWF {l : Launch} {y : MethodName} {ws ws' : List Cond} {rm : Room} {Pc : Array Value → State → Prop} {Qc : Array Value → State → Outcome → State → Prop} {mc ms : Nat} {free : Addr → Prop} {cc : ByteArray} {maxL : Nat} {ret : Option FieldType}
    (hy : plainFor y = true) (hw : ws = Cond.code y cc maxL ret :: ws')
    (body : ∀ p e s m args below meth c s₁, BodyLoose p l y (headSpec ws rm) cc maxL ret e s m args below meth c s₁ → c.maxLocals = maxL → Pc args s →
      W p l e (headSpec ws rm).room s m args below meth c s.heap [] 0 0 (MQ below Qc args s mc ms free) (entryFrame m args maxL)) : Met l y ws rm Pc Qc mc ms free := by
  refine MetFree.of_bodySF (code := cc) (maxLocals := maxL) (ret := ret) hy ?_ ?_
  · intro args s m h hn
    obtain ⟨meth, c, h1, h2, h3, h4, h5, h6, -, -⟩ := Cond.code_spec hn (atoms_spec (ws := ws) h _ (by rw [hw]; exact List.mem_cons_self))
    exact ⟨meth, c, h1, h2, h3, h4, h5, h6⟩
  · intro p e s m args below meth c s₁ B hml hP _
    have hh0 : s₁.heap = s.heap := by rw [B.state]; rfl
    obtain ⟨t, a1, o, b1, b2, b3⟩ := body p e s m args below meth c s₁ B hml hP s₁ hh0 (Stand.of_body B)
    exact ⟨t, o, a1, b1, b2, ⟨b3.1, b3.2⟩⟩
theorem wm_openF {G : mG} {y : mY} {d : Nat} {L : List mV} {M : mM} {Q : Option mV → mM → Prop} {args : List mV} (hp : plainFor y.1 = true) (hlen : (mEnt args).length ≤ y.2.2.1) (hL : mEnt args ++ List.replicate (y.2.2.1 - (mEnt args).length) vd = L) (h : mWm G y d 0 L [] M Q) : mCm G y d args M Q := by
  obtain ⟨r, M', ⟨h1, h2⟩, h3⟩ := h
  refine ⟨r, M', ⟨h1, ?_⟩, h3⟩
  refine Met.ofWF (cc := y.2.1) (maxL := y.2.2.1) (ret := y.2.2.2) hp rfl ?_
  intro p e s m args9 below meth c s₁ B hml hv
  obtain ⟨rfl, hRep, hK, hh, hal⟩ := hv
  have hl := lv_entry (args.map mcv) (n := y.2.2.1) (by rw [mEnt_len]; exact hlen)
  rw [lg_entry_eq]
  generalize (lg_sl (args.map mcv) ++ List.replicate (y.2.2.1 - (lg_sl (args.map mcv)).length) Slot.unset).toArray = ls at hl ⊢
  have hLs : mLs ls y.2.2.1 L := by
    refine ⟨hl.1, hl.2.1, fun i v hi hv => ?_⟩
    rw [← hL] at hi
    by_cases q : i < (mEnt args).length
    · rw [List.getElem?_append_left q] at hi
      have := mEnt_args args 0 i v hi hv
      rw [Nat.zero_add] at this
      exact hl.2.2 _ this
    · rw [List.getElem?_append_right (by omega)] at hi
      have := List.mem_of_getElem? hi
      rw [List.eq_of_mem_replicate this] at hv
      cases hv
  have := h2 p e (headSpec (zW (yC y)) { frames := d, cells := mZ M' - mZ M, slots := mS M' - mS M, locals := 64 * d }).room s m (args.map mcv).toArray below meth c s.heap [] 0 0 ls ⟨B.exec, B.bytes, hml, B.returns, B.notSynchronized, (name_of_methodNamed B.named B.method).1, findClass_of_methodNamed B.named, hK, hh.use _, hh, hal, Nat.le_refl _, Nat.le_refl _⟩ hRep (fun q h => by cases h) (by rw [Nat.zero_add]; exact Nat.le_refl _) (by rw [Nat.zero_add]; exact Nat.le_refl _) hLs
  rw [Nat.zero_add, Nat.zero_add] at this
  exact this
theorem cmpz0 (z b : Int) : (0 ≤ cmpL z b ↔ b ≤ z) ∧ (cmpL z b ≤ 0 ↔ z ≤ b) ∧ (cmpL z b < 0 ↔ z < b) ∧ (cmpL z b = 0 ↔ z = b) ∧ (0 < cmpL z b ↔ b < z) := by unfold cmpL; split <;> (try split) <;> omega
theorem xorL_neg {x y : Int} (hx : i64 x) (hy : i64 y) (h : 0 < y) : xorL x y < 0 ↔ x < 0 := by
  have a : (Int64.ofInt x ^^^ Int64.ofInt y).toBitVec.msb = ((Int64.ofInt x).toBitVec.msb ^^ (Int64.ofInt y).toBitVec.msb) := by
    rw [Int64.toBitVec_xor, BitVec.msb_xor]
  have ex : (Int64.ofInt x).toBitVec.toInt = x := i64_toInt hx
  have ey : (Int64.ofInt y).toBitVec.toInt = y := i64_toInt hy
  have e : (Int64.ofInt x ^^^ Int64.ofInt y).toBitVec.toInt = xorL x y := rfl
  rw [BitVec.msb_eq_toInt, BitVec.msb_eq_toInt, BitVec.msb_eq_toInt, ex, ey, e, decide_eq_false (by omega : ¬ y < 0), Bool.xor_false] at a
  exact decide_eq_decide.1 a
theorem xorL_i64 {x y : Int} : i64 (xorL x y) := ⟨Int64.le_toInt _, Int64.toInt_lt _⟩
theorem s_JM_floorMod0 {G : mG} (d : Nat) (M : mM) (x y : Int) (hx : i64 x) (h : 0 < y) (hy : i64 y) : Cj G y_JM_floorMod d [vl x, vl y] M (fun v M' => M' = M ∧ (0 ≤ v ∧ v < y) ∧ v = x % y) := by
  have ty : ∀ z : Int, i64 z → i64 (cmpL z 0) ∧ i32 (cmpL z 0) := fun z _ => by unfold cmpL; split <;> (try split) <;> exact ⟨⟨by decide, by decide⟩, ⟨by decide, by decide⟩⟩
  have b1 := Int.tmod_lt_of_pos x h
  have b2 : -y < x.tmod y := by
    have := Int.tmod_lt_of_pos (-x) h
    rw [Int.neg_tmod] at this
    omega
  have im : i64 (x.tmod y) := ⟨by have := hy.2; omega, by have := hy.2; omega⟩
  have s0 := xorL_neg hx hy h
  refine wm_openF (y := y_JM_floorMod) (by first | exact Jvm.Free.JP.mathPlain rfl (by decide +kernel) | decide +kernel) (Nat.le_of_ble_eq_true rfl) (L := [vl x, vd, vl y, vd, vd, vd]) rfl ?_
  refine wm_lload_n d_JM_floorMod_0 rfl rfl ?_
  refine wm_lload_n d_JM_floorMod_1 rfl rfl ?_
  refine wm_lrem d_JM_floorMod_2 hx hy (by omega) ?_
  refine wm_lstore d_JM_floorMod_3 (by decide) (L' := [vl x, vd, vl y, vd, vl (x.tmod y), vd]) rfl ?_
  refine wm_lload_n d_JM_floorMod_5 rfl rfl ?_
  refine wm_lload_n d_JM_floorMod_6 rfl rfl ?_
  refine wm_lxor d_JM_floorMod_7 ?_
  refine wm_lconst (x := 0) d_JM_floorMod_8 rfl ?_
  refine wm_lcmp d_JM_floorMod_9 xorL_i64 ⟨by decide, by decide⟩ ?_
  refine wm_if_ge (tgt := 25) d_JM_floorMod_10 rfl (ty _ xorL_i64).2 ?_ ?_
  · intro q
    have q' := (cmpz0 (xorL x y) 0).1.1 q
    have x0 : 0 ≤ x := by omega
    refine wm_lload d_JM_floorMod_25 rfl ?_
    refine wm_lreturn d_JM_floorMod_27 rfl ?_
    exact ⟨_, rfl, rfl, ⟨Int.tmod_nonneg y x0, b1⟩, Int.tmod_eq_emod_of_nonneg x0⟩
  · intro q
    have q' : ¬ 0 ≤ xorL x y := fun u => q ((cmpz0 (xorL x y) 0).1.2 u)
    have x0 : x < 0 := s0.1 (by omega)
    have m0 : x.tmod y ≤ 0 := by
      have := Int.tmod_nonneg y (a := -x) (by omega)
      rw [Int.neg_tmod] at this
      omega
    refine wm_lload d_JM_floorMod_13 rfl ?_
    refine wm_lconst (x := 0) d_JM_floorMod_15 rfl ?_
    refine wm_lcmp d_JM_floorMod_16 im ⟨by decide, by decide⟩ ?_
    refine wm_if_eq (tgt := 25) d_JM_floorMod_17 rfl (ty _ im).2 ?_ ?_
    · intro c
      have c' := (cmpz0 (x.tmod y) 0).2.2.2.1.1 c
      refine wm_lload d_JM_floorMod_25 rfl ?_
      refine wm_lreturn d_JM_floorMod_27 rfl ?_
      exact ⟨_, rfl, rfl, ⟨by omega, by omega⟩, by rw [c', Int.emod_eq_zero_of_dvd (Int.dvd_of_tmod_eq_zero c')]⟩
    · intro c
      have c' : x.tmod y ≠ 0 := fun u => c ((cmpz0 (x.tmod y) 0).2.2.2.1.2 u)
      refine wm_lload d_JM_floorMod_20 rfl ?_
      refine wm_lload_n d_JM_floorMod_22 rfl rfl ?_
      refine wm_ladd d_JM_floorMod_23 ?_
      refine wm_lreturn d_JM_floorMod_24 rfl ?_
      have e1 : x = (x.tmod y + y) + y * (x.tdiv y - 1) := by
        have e0 := Int.mul_tdiv_add_tmod x y
        rw [Int.mul_sub]
        omega
      have e2 : ((x.tmod y + y) + y * (x.tdiv y - 1)) % y = x.tmod y + y := by
        rw [Int.add_mul_emod_self_left]
        exact Int.emod_eq_of_lt (by omega) (by omega)
      rw [← e1] at e2
      exact ⟨_, rfl, rfl, ⟨by omega, by omega⟩, e2.symm⟩
end
section
/-! What the law's start says of the primes and of Throwable's fields. -/
section STA
variable {G : mG} {args : Array Value}
theorem gPr.of (hB : gB G = (gS G).heap.size) (h1 : (Cond.laysStatic "ChanceArena$Residues" "PRIMES" "[I").before args (gS G) = true) (h2 : (Cond.initialized "ChanceArena$Residues").before args (gS G) = true) (har : (Cond.arrayOf (.static "ChanceArena$Residues" "PRIMES" "[I") .int).before args (gS G) = true) (hle : (Cond.eq (.length (.static "ChanceArena$Residues" "PRIMES" "[I")) (.int 36)).before args (gS G) = true) (hel : ∀ j : Nat, j < 36 → (Cond.eq (.elem (.static "ChanceArena$Residues" "PRIMES" "[I") (.int (Int32.ofNat j))) (.int (Int32.ofInt (prL.getD j 0)))).before args (gS G) = true) : gPr G := by
  have hA : ∀ a : Nat, a < (gS G).heap.size → ¬ mOwn G a := fun a ha h => by
    have h : gB G ≤ a := h
    omega
  obtain ⟨t, ht, hT⟩ := va_Tof (N := 36) (f := fun j => .int (Int32.ofInt (prL.getD j 0))) (A := mOwn G) (by decide) har (va_eqt hle) (fun j hj => va_eqt (hel j hj)) hA
  exact ⟨t, va_Zref h1 h2 ht hA, hT⟩
theorem TH.of (hB : gB G = (gS G).heap.size) (htr : (gL G).stackTraces = false) (h : ∀ w ∈ zSpec, w.before args (gS G) = true) : TH G := by
  refine ⟨htr, ?_⟩
  rw [hB]
  exact ⟨zS.of (h _ (List.mem_of_getElem? (i := 2) rfl)) (h _ (List.mem_of_getElem? (i := 0) rfl)), zS.of (h _ (List.mem_of_getElem? (i := 3) rfl)) (h _ (List.mem_of_getElem? (i := 1) rfl))⟩
end STA
end
section
/-! All string constants of class and reference. -/
/-- the same with their letters -/
def litBW : List (Nat × String × List Int) := [(72, "var", [118, 97, 114]), (78, "max", [109, 97, 120]), (80, "min", [109, 105, 110]), (82, "true", [116, 114, 117, 101]), (84, "stay", [115, 116, 97, 121]), (86, "bool", [98, 111, 111, 108]), (88, "init", [105, 110, 105, 116]), (90, "most", [109, 111, 115, 116]), (92, "const", [99, 111, 110, 115, 116]), (94, "false", [102, 97, 108, 115, 101]), (96, "least", [108, 101, 97, 115, 116]), (98, "target", [116, 97, 114, 103, 101, 116]), (100, "formula", [102, 111, 114, 109, 117, 108, 97])]
def litBM : List (Nat × String × List Int) := [(176, "const", [99, 111, 110, 115, 116]), (182, "var", [118, 97, 114]), (184, "bool", [98, 111, 111, 108]), (186, "formula", [102, 111, 114, 109, 117, 108, 97]), (188, "false", [102, 97, 108, 115, 101]), (190, "max", [109, 97, 120]), (192, "min", [109, 105, 110]), (194, "most", [109, 111, 115, 116]), (196, "init", [105, 110, 105, 116]), (198, "stay", [115, 116, 97, 121]), (200, "target", [116, 97, 114, 103, 101, 116]), (202, "true", [116, 114, 117, 101]), (204, "least", [108, 101, 97, 115, 116])]
/-- the string constants of class and reference are what they say -/
def LT (G : mG) : Prop := JD G ∧ (∀ q, q ∈ litBW → Lit G "ChanceArena$Words" q.1 q.2.1 q.2.2) ∧ ∀ q, q ∈ litBM → Lit G "ChanceArenaModel" q.1 q.2.1 q.2.2
/-- what is said of a constant's contents -/
def litC (own : String) (k : Nat) (f : List Int) : List Cond := [.exactly (.string own k) "java/lang/String", .eq (.field (.string own k) "java/lang/String" "coder" "B") (.int 0), .arrayOf (.field (.string own k) "java/lang/String" "value" "[B") .byte, .eq (.length (.field (.string own k) "java/lang/String" "value" "[B")) (.int (Int32.ofNat f.length))] ++ (List.range f.length).map (fun j => .eq (.elem (.field (.string own k) "java/lang/String" "value" "[B") (.int (Int32.ofNat j))) (.int (Int32.ofInt (f.getD j 0))))
section LTS
variable {G : mG} {args : Array Value}
theorem Lit.ofC {own tx : String} {k : Nat} {f : List Int} (hB : gB G = (gS G).heap.size) (hn : f.length < 100) (hf : f.all (fun x => decide (0 ≤ x ∧ x < 128)) = true) (hr : (Cond.stringRef own k tx).before args (gS G) = true) (h : ∀ w ∈ litC own k f, w.before args (gS G) = true) : Lit G own k tx f := by
  refine Lit.of (f := f) hB hn (fun j hj => ?_) hr (h _ (List.mem_append_left _ (List.mem_of_getElem? (i := 0) rfl))) (h _ (List.mem_append_left _ (List.mem_of_getElem? (i := 1) rfl))) (h _ (List.mem_append_left _ (List.mem_of_getElem? (i := 2) rfl))) (h _ (List.mem_append_left _ (List.mem_of_getElem? (i := 3) rfl))) (fun j hj => h _ (List.mem_append_right _ (List.mem_map.mpr ⟨j, List.mem_range.mpr hj, rfl⟩)))
  have e : f.getD j 0 = f[j] := by rw [List.getD_eq_getElem?_getD, List.getElem?_eq_getElem hj]; rfl
  rw [e]
  exact of_decide_eq_true (List.all_eq_true.mp hf _ (List.getElem_mem hj))
theorem LT.of (hB : gB G = (gS G).heap.size) (hJ : JD G) (hw : ∀ q ∈ litBW, (Cond.stringRef "ChanceArena$Words" q.1 q.2.1).before args (gS G) = true ∧ ∀ w ∈ litC "ChanceArena$Words" q.1 q.2.2, w.before args (gS G) = true) (hm : ∀ q ∈ litBM, (Cond.stringRef "ChanceArenaModel" q.1 q.2.1).before args (gS G) = true ∧ ∀ w ∈ litC "ChanceArenaModel" q.1 q.2.2, w.before args (gS G) = true) : LT G := by
  have a1 : ∀ q ∈ litBW, q.2.2.length < 100 ∧ q.2.2.all (fun x => decide (0 ≤ x ∧ x < 128)) = true := by decide +kernel
  have a2 : ∀ q ∈ litBM, q.2.2.length < 100 ∧ q.2.2.all (fun x => decide (0 ≤ x ∧ x < 128)) = true := by decide +kernel
  exact ⟨hJ, fun b hb => Lit.ofC hB (a1 b hb).1 (a1 b hb).2 (hw b hb).1 (hw b hb).2, fun b hb => Lit.ofC hB (a2 b hb).1 (a2 b hb).2 (hm b hb).1 (hm b hb).2⟩
end LTS
/-! The language's own words: pure. -/
/-- the letters from p to e - 1 -/
def wlq (T : Nat → Int) (p e : Nat) : List Int := (List.range (e - p)).map (fun j => T (p + j))
/-- what kind of word a name is (1: a name and nothing else) -/
def kwq (l : List Int) : Int := if l = [118, 97, 114] then 4 else if l = [109, 97, 120] then 7 else if l = [109, 105, 110] then 8 else if l = [116, 114, 117, 101] then 12 else if l = [115, 116, 97, 121] then 10 else if l = [98, 111, 111, 108] then 5 else if l = [105, 110, 105, 116] then 9 else if l = [109, 111, 115, 116] then 15 else if l = [99, 111, 110, 115, 116] then 3 else if l = [102, 97, 108, 115, 101] then 13 else if l = [108, 101, 97, 115, 116] then 14 else if l = [116, 97, 114, 103, 101, 116] then 11 else if l = [102, 111, 114, 109, 117, 108, 97] then 6 else 1
theorem kw_none {l : List Int} (h0 : l ≠ [118, 97, 114]) (h1 : l ≠ [109, 97, 120]) (h2 : l ≠ [109, 105, 110]) (h3 : l ≠ [116, 114, 117, 101]) (h4 : l ≠ [115, 116, 97, 121]) (h5 : l ≠ [98, 111, 111, 108]) (h6 : l ≠ [105, 110, 105, 116]) (h7 : l ≠ [109, 111, 115, 116]) (h8 : l ≠ [99, 111, 110, 115, 116]) (h9 : l ≠ [102, 97, 108, 115, 101]) (h10 : l ≠ [108, 101, 97, 115, 116]) (h11 : l ≠ [116, 97, 114, 103, 101, 116]) (h12 : l ≠ [102, 111, 114, 109, 117, 108, 97]) : kwq l = 1 := by
  unfold kwq
  rw [if_neg h0, if_neg h1, if_neg h2, if_neg h3, if_neg h4, if_neg h5, if_neg h6, if_neg h7, if_neg h8, if_neg h9, if_neg h10, if_neg h11, if_neg h12]
theorem wlq_len (T : Nat → Int) (p e : Nat) : (wlq T p e).length = e - p := by simp [wlq]
theorem wlq_hd {T : Nat → Int} {p e : Nat} (h : p < e) : (wlq T p e).head? = some (T p) := by
  obtain ⟨k, hk⟩ : ∃ k, e - p = k + 1 := ⟨e - p - 1, by omega⟩
  unfold wlq
  rw [hk, List.range_succ_eq_map]
  simp
theorem wl_len {l k : List Int} {n : Nat} (h : l.length = n) (c : k.length ≠ n) : l ≠ k := fun e => c (by rw [← e]; exact h)
theorem wl_hd {l k : List Int} {x : Int} (h : l.head? = some x) (c : k.head? ≠ some x) : l ≠ k := fun e => c (by rw [← e]; exact h)
theorem wlq_eq {T : Nat → Int} {p e : Nat} {l : List Int} : wlq T p e = l ↔ (e - p = l.length ∧ ∀ j, j < l.length → T (p + j) = l.getD j 0) := by
  constructor
  · intro h
    have hl : e - p = l.length := by rw [← h]; exact (wlq_len T p e).symm
    refine ⟨hl, fun j hj => ?_⟩
    rw [← h, List.getD_eq_getElem?_getD]
    unfold wlq
    rw [List.getElem?_map, List.getElem?_range (by omega)]
    rfl
  · intro ⟨h1, h2⟩
    apply List.ext_getElem
    · rw [wlq_len]; exact h1
    · intro j hj hj2
      have := h2 j hj2
      rw [List.getD_eq_getElem?_getD, List.getElem?_eq_getElem hj2] at this
      simp only [wlq, List.getElem_map, List.getElem_range]
      exact this
end
section
/-! The law's helpers where nothing is thrown. -/
theorem n_La_end {G : mG} {M : mM} {d t o : Nat} {l l1 l2 : Int} {Q0 : Int → mM → Prop} (kt : mK M t = 1) (h : Ci G y_CA_end d [vr t, vi l] M Q0) (hq : ∀ r M1, Q0 r M1 → i32 r ∧ mK M1 o = 33 ∧ 0 < mN M1 o) : CiW G y_La_end hs_end (d + 1) [vr t, vi l, vr o] M (fun x M2 => x = 0 ∧ ∃ r M1, Q0 r M1 ∧ M2 = mUL M1 o 0 r) := by
  refine wm_openW rfl (Nat.le_of_ble_eq_true rfl) (L := [vr t, vi l, vr o, vd]) rfl ?_
  refine wm_aload_n d_La_end_0 rfl rfl ?_
  refine wm_iconst d_La_end_1 ?_
  refine wm_aload_n d_La_end_2 rfl rfl ?_
  refine wm_iload_n d_La_end_3 rfl rfl ?_
  refine wm_callV (y2 := y_CA_end) (c := 0) (n := 1) (As := [vi l]) rfl rfl rfl kh_7_176 kh_7_177 kh_7_178 k1_1 kh_7_179 ⟨by decide, by decide, by decide +kernel⟩ (by decide) rfl rfl (Nat.le_of_ble_eq_true rfl) d_La_end_4 kt ?_
  refine mCm.mono h (fun r9 M1 q => ?_)
  obtain ⟨r, rfl, q⟩ := q
  obtain ⟨ir, ko, no⟩ := hq r M1 q
  refine wm_i2l d_La_end_7 ir ?_
  refine wm_last d_La_end_8 ko ⟨by decide, by omega⟩ ⟨by have := ir.1; omega, by have := ir.2; omega⟩ ?_
  refine wm_goto (tgt := 15) d_La_end_9 rfl ?_
  refine wm_iconst d_La_end_15 ?_
  refine wm_ireturn d_La_end_16 rfl rfl ?_
  exact ⟨_, rfl, rfl, r, M1, q, rfl⟩
theorem n_La_explore {G : mG} {M : mM} {d t o : Nat} {l l1 l2 : Int} {Q0 : Int → mM → Prop} (kt : mK M t = 1) (h : Ci G y_CA_explore d [vr t] M Q0) (hq : ∀ r M1, Q0 r M1 → i32 r ∧ mK M1 o = 33 ∧ 0 < mN M1 o) : CiW G y_La_explore hs_explore (d + 1) [vr t, vr o] M (fun x M2 => x = 0 ∧ ∃ r M1, Q0 r M1 ∧ M2 = mUL M1 o 0 r) := by
  refine wm_openW rfl (Nat.le_of_ble_eq_true rfl) (L := [vr t, vr o, vd]) rfl ?_
  refine wm_aload_n d_La_explore_0 rfl rfl ?_
  refine wm_iconst d_La_explore_1 ?_
  refine wm_aload_n d_La_explore_2 rfl rfl ?_
  refine wm_callV (y2 := y_CA_explore) (c := 0) (n := 0) (As := []) rfl rfl rfl kh_7_195 kh_7_196 kh_7_197 k1_1 kh_7_198 ⟨by decide, by decide, by decide +kernel⟩ (by decide) rfl rfl (Nat.le_of_ble_eq_true rfl) d_La_explore_3 kt ?_
  refine mCm.mono h (fun r9 M1 q => ?_)
  obtain ⟨r, rfl, q⟩ := q
  obtain ⟨ir, ko, no⟩ := hq r M1 q
  refine wm_i2l d_La_explore_6 ir ?_
  refine wm_last d_La_explore_7 ko ⟨by decide, by omega⟩ ⟨by have := ir.1; omega, by have := ir.2; omega⟩ ?_
  refine wm_goto (tgt := 14) d_La_explore_8 rfl ?_
  refine wm_iconst d_La_explore_14 ?_
  refine wm_ireturn d_La_explore_15 rfl rfl ?_
  exact ⟨_, rfl, rfl, r, M1, q, rfl⟩
theorem n_La_variable {G : mG} {M : mM} {d t o : Nat} {l l1 l2 : Int} {Q0 : Int → mM → Prop} (kt : mK M t = 1) (h : Ci G y_CA_variable d [vr t, vi l1, vi l2] M Q0) (hq : ∀ r M1, Q0 r M1 → i32 r ∧ mK M1 o = 33 ∧ 0 < mN M1 o) : CiW G y_La_variable hs_variable (d + 1) [vr t, vi l1, vi l2, vr o] M (fun x M2 => x = 0 ∧ ∃ r M1, Q0 r M1 ∧ M2 = mUL M1 o 0 r) := by
  refine wm_openW rfl (Nat.le_of_ble_eq_true rfl) (L := [vr t, vi l1, vi l2, vr o, vd]) rfl ?_
  refine wm_aload_n d_La_variable_0 rfl rfl ?_
  refine wm_iconst d_La_variable_1 ?_
  refine wm_aload_n d_La_variable_2 rfl rfl ?_
  refine wm_iload_n d_La_variable_3 rfl rfl ?_
  refine wm_iload_n d_La_variable_4 rfl rfl ?_
  refine wm_callV (y2 := y_CA_variable) (c := 0) (n := 2) (As := [vi l1, vi l2]) rfl rfl rfl kh_8_31 kh_8_32 kh_8_33 k1_1 kh_8_34 ⟨by decide, by decide, by decide +kernel⟩ (by decide) rfl rfl (Nat.le_of_ble_eq_true rfl) d_La_variable_5 kt ?_
  refine mCm.mono h (fun r9 M1 q => ?_)
  obtain ⟨r, rfl, q⟩ := q
  obtain ⟨ir, ko, no⟩ := hq r M1 q
  refine wm_i2l d_La_variable_8 ir ?_
  refine wm_last d_La_variable_9 ko ⟨by decide, by omega⟩ ⟨by have := ir.1; omega, by have := ir.2; omega⟩ ?_
  refine wm_goto (tgt := 17) d_La_variable_10 rfl ?_
  refine wm_iconst d_La_variable_17 ?_
  refine wm_ireturn d_La_variable_18 rfl rfl ?_
  exact ⟨_, rfl, rfl, r, M1, q, rfl⟩
theorem n_La_solve {G : mG} {M : mM} {d t o : Nat} {l l1 l2 : Int} {Q0 : Int → mM → Prop} (kt : mK M t = 1) (h : Ci G y_CA_solve d [vr t] M Q0) (hq : ∀ r M1, Q0 r M1 → i32 r ∧ mK M1 o = 33 ∧ 0 < mN M1 o) : CiW G y_La_solve hs_solve (d + 1) [vr t, vr o] M (fun x M2 => x = 0 ∧ ∃ r M1, Q0 r M1 ∧ M2 = mUL M1 o 0 r) := by
  refine wm_openW rfl (Nat.le_of_ble_eq_true rfl) (L := [vr t, vr o, vd]) rfl ?_
  refine wm_aload_n d_La_solve_0 rfl rfl ?_
  refine wm_iconst d_La_solve_1 ?_
  refine wm_aload_n d_La_solve_2 rfl rfl ?_
  refine wm_callV (y2 := y_CA_solve) (c := 0) (n := 0) (As := []) rfl rfl rfl kh_8_53 kh_8_54 kh_8_55 k1_1 kh_8_56 ⟨by decide, by decide, by decide +kernel⟩ (by decide) rfl rfl (Nat.le_of_ble_eq_true rfl) d_La_solve_3 kt ?_
  refine mCm.mono h (fun r9 M1 q => ?_)
  obtain ⟨r, rfl, q⟩ := q
  obtain ⟨ir, ko, no⟩ := hq r M1 q
  refine wm_i2l d_La_solve_6 ir ?_
  refine wm_last d_La_solve_7 ko ⟨by decide, by omega⟩ ⟨by have := ir.1; omega, by have := ir.2; omega⟩ ?_
  refine wm_goto (tgt := 14) d_La_solve_8 rfl ?_
  refine wm_iconst d_La_solve_14 ?_
  refine wm_ireturn d_La_solve_15 rfl rfl ?_
  exact ⟨_, rfl, rfl, r, M1, q, rfl⟩
theorem n_La_within {G : mG} {M : mM} {d t o : Nat} {l l1 l2 : Int} {Q0 : Int → mM → Prop} (kt : mK M t = 1) (h : Ci G y_CA_within d [vr t, vi l] M Q0) (hq : ∀ r M1, Q0 r M1 → i32 r ∧ mK M1 o = 33 ∧ 0 < mN M1 o) : CiW G y_La_within hs_within (d + 1) [vr t, vi l, vr o] M (fun x M2 => x = 0 ∧ ∃ r M1, Q0 r M1 ∧ M2 = mUL M1 o 0 r) := by
  refine wm_openW rfl (Nat.le_of_ble_eq_true rfl) (L := [vr t, vi l, vr o, vd]) rfl ?_
  refine wm_aload_n d_La_within_0 rfl rfl ?_
  refine wm_iconst d_La_within_1 ?_
  refine wm_aload_n d_La_within_2 rfl rfl ?_
  refine wm_iload_n d_La_within_3 rfl rfl ?_
  refine wm_callV (y2 := y_CA_within) (c := 0) (n := 1) (As := [vi l]) rfl rfl rfl kh_8_160 kh_8_161 kh_8_162 k1_1 kh_8_163 ⟨by decide, by decide, by decide +kernel⟩ (by decide) rfl rfl (Nat.le_of_ble_eq_true rfl) d_La_within_4 kt ?_
  refine mCm.mono h (fun r9 M1 q => ?_)
  obtain ⟨r, rfl, q⟩ := q
  obtain ⟨ir, ko, no⟩ := hq r M1 q
  refine wm_i2l d_La_within_7 ir ?_
  refine wm_last d_La_within_8 ko ⟨by decide, by omega⟩ ⟨by have := ir.1; omega, by have := ir.2; omega⟩ ?_
  refine wm_goto (tgt := 18) d_La_within_9 rfl ?_
  refine wm_iconst d_La_within_18 ?_
  refine wm_ireturn d_La_within_19 rfl rfl ?_
  exact ⟨_, rfl, rfl, r, M1, q, rfl⟩
theorem n_La_choose {G : mG} {M : mM} {d t : Nat} {l l1 l2 : Int} {Q0 : mM → Prop} (kt : mK M t = 1) (h : Cv G y_CA_choose d [vr t, vi l1, vi l2] M Q0) : CiW G y_La_choose hs_choose (d + 1) [vr t, vi l1, vi l2] M (fun x M2 => x = 0 ∧ Q0 M2) := by
  refine wm_openW rfl (Nat.le_of_ble_eq_true rfl) (L := [vr t, vi l1, vi l2, vd]) rfl ?_
  refine wm_aload_n d_La_choose_0 rfl rfl ?_
  refine wm_iload_n d_La_choose_1 rfl rfl ?_
  refine wm_iload_n d_La_choose_2 rfl rfl ?_
  refine wm_callV (y2 := y_CA_choose) (c := 0) (n := 2) (As := [vi l1, vi l2]) rfl rfl rfl kh_8_180 kh_8_181 kh_8_182 k1_1 kh_8_183 ⟨by decide, by decide, by decide +kernel⟩ (by decide) rfl rfl (Nat.le_of_ble_eq_true rfl) d_La_choose_3 kt ?_
  refine mCm.mono h (fun r9 M1 q => ?_)
  obtain ⟨rfl, q⟩ := q
  refine wm_goto (tgt := 12) d_La_choose_6 rfl ?_
  refine wm_iconst d_La_choose_12 ?_
  refine wm_ireturn d_La_choose_13 rfl rfl ?_
  exact ⟨_, rfl, rfl, q⟩
theorem n_La_adopt {G : mG} {M : mM} {d t : Nat} {l l1 l2 : Int} {Q0 : mM → Prop} (kt : mK M t = 1) (h : Cv G y_CA_adopt d [vr t] M Q0) : CiW G y_La_adopt hs_adopt (d + 1) [vr t] M (fun x M2 => x = 0 ∧ Q0 M2) := by
  refine wm_openW rfl (Nat.le_of_ble_eq_true rfl) (L := [vr t, vd]) rfl ?_
  refine wm_aload_n d_La_adopt_0 rfl rfl ?_
  refine wm_callV (y2 := y_CA_adopt) (c := 0) (n := 0) (As := []) rfl rfl rfl kh_8_187 kh_8_188 kh_8_189 k1_1 kh_8_190 ⟨by decide, by decide, by decide +kernel⟩ (by decide) rfl rfl (Nat.le_of_ble_eq_true rfl) d_La_adopt_1 kt ?_
  refine mCm.mono h (fun r9 M1 q => ?_)
  obtain ⟨rfl, q⟩ := q
  refine wm_goto (tgt := 10) d_La_adopt_4 rfl ?_
  refine wm_iconst d_La_adopt_10 ?_
  refine wm_ireturn d_La_adopt_11 rfl rfl ?_
  exact ⟨_, rfl, rfl, q⟩
theorem n_La_judge {G : mG} {M : mM} {d t o : Nat} {l l1 l2 : Int} {Q0 : Int → mM → Prop} (kt : mK M t = 1) (h : Ci G y_CA_judge d [vr t, vi l] M Q0) (hq : ∀ r M1, Q0 r M1 → i32 r ∧ mK M1 o = 33 ∧ 0 < mN M1 o) : CiW G y_La_judge hs_judge (d + 1) [vr t, vi l, vr o] M (fun x M2 => x = 0 ∧ ∃ r M1, Q0 r M1 ∧ M2 = mUL M1 o 0 r) := by
  refine wm_openW rfl (Nat.le_of_ble_eq_true rfl) (L := [vr t, vi l, vr o, vd]) rfl ?_
  refine wm_aload_n d_La_judge_0 rfl rfl ?_
  refine wm_iconst d_La_judge_1 ?_
  refine wm_aload_n d_La_judge_2 rfl rfl ?_
  refine wm_iload_n d_La_judge_3 rfl rfl ?_
  refine wm_callV (y2 := y_CA_judge) (c := 0) (n := 1) (As := [vi l]) rfl rfl rfl kh_8_195 kh_8_196 kh_8_197 k1_1 kh_8_198 ⟨by decide, by decide, by decide +kernel⟩ (by decide) rfl rfl (Nat.le_of_ble_eq_true rfl) d_La_judge_4 kt ?_
  refine mCm.mono h (fun r9 M1 q => ?_)
  obtain ⟨r, rfl, q⟩ := q
  obtain ⟨ir, ko, no⟩ := hq r M1 q
  refine wm_i2l d_La_judge_7 ir ?_
  refine wm_last d_La_judge_8 ko ⟨by decide, by omega⟩ ⟨by have := ir.1; omega, by have := ir.2; omega⟩ ?_
  refine wm_goto (tgt := 18) d_La_judge_9 rfl ?_
  refine wm_iconst d_La_judge_18 ?_
  refine wm_ireturn d_La_judge_19 rfl rfl ?_
  exact ⟨_, rfl, rfl, r, M1, q, rfl⟩
end
section
/-! What the law's start says: all that the machine asks of it. -/
abbrev stF : List Cond := flatC (Jvm.Cond.and given_1 narrow_1)
theorem st_in {l : List Cond} {ix : List Nat} (h : l.map some = ix.map (fun i => stF[i]?)) : ∀ w ∈ l, w ∈ stF := fun w hw => by
  have : some w ∈ l.map some := List.mem_map.mpr ⟨w, hw, rfl⟩
  rw [h] at this
  obtain ⟨i, -, e⟩ := List.mem_map.mp this
  exact List.mem_of_getElem? e
theorem st_litBW_72 : (litC "ChanceArena$Words" 72 [118, 97, 114]).map some = [330, 331, 332, 333, 334, 335, 336].map (fun i => stF[i]?) := by decide +kernel
theorem sr_litBW_72 : Cond.stringRef "ChanceArena$Words" 72 "var" ∈ lw_tbl := zk_4 _ (List.mem_of_getElem? (i := 54) rfl)
theorem st_litBW_78 : (litC "ChanceArena$Words" 78 [109, 97, 120]).map some = [337, 338, 339, 340, 341, 342, 343].map (fun i => stF[i]?) := by decide +kernel
theorem sr_litBW_78 : Cond.stringRef "ChanceArena$Words" 78 "max" ∈ lw_tbl := zk_4 _ (List.mem_of_getElem? (i := 107) rfl)
theorem st_litBW_80 : (litC "ChanceArena$Words" 80 [109, 105, 110]).map some = [344, 345, 346, 347, 348, 349, 350].map (fun i => stF[i]?) := by decide +kernel
theorem sr_litBW_80 : Cond.stringRef "ChanceArena$Words" 80 "min" ∈ lw_tbl := zk_4 _ (List.mem_of_getElem? (i := 108) rfl)
theorem st_litBW_82 : (litC "ChanceArena$Words" 82 [116, 114, 117, 101]).map some = [351, 352, 353, 354, 355, 356, 357, 358].map (fun i => stF[i]?) := by decide +kernel
theorem sr_litBW_82 : Cond.stringRef "ChanceArena$Words" 82 "true" ∈ lw_tbl := zk_4 _ (List.mem_of_getElem? (i := 109) rfl)
theorem st_litBW_84 : (litC "ChanceArena$Words" 84 [115, 116, 97, 121]).map some = [359, 360, 361, 362, 363, 364, 365, 366].map (fun i => stF[i]?) := by decide +kernel
theorem sr_litBW_84 : Cond.stringRef "ChanceArena$Words" 84 "stay" ∈ lw_tbl := zk_4 _ (List.mem_of_getElem? (i := 110) rfl)
theorem st_litBW_86 : (litC "ChanceArena$Words" 86 [98, 111, 111, 108]).map some = [367, 368, 369, 370, 371, 372, 373, 374].map (fun i => stF[i]?) := by decide +kernel
theorem sr_litBW_86 : Cond.stringRef "ChanceArena$Words" 86 "bool" ∈ lw_tbl := zk_4 _ (List.mem_of_getElem? (i := 111) rfl)
theorem st_litBW_88 : (litC "ChanceArena$Words" 88 [105, 110, 105, 116]).map some = [375, 376, 377, 378, 379, 380, 381, 382].map (fun i => stF[i]?) := by decide +kernel
theorem sr_litBW_88 : Cond.stringRef "ChanceArena$Words" 88 "init" ∈ lw_tbl := zk_4 _ (List.mem_of_getElem? (i := 112) rfl)
theorem st_litBW_90 : (litC "ChanceArena$Words" 90 [109, 111, 115, 116]).map some = [383, 384, 385, 386, 387, 388, 389, 390].map (fun i => stF[i]?) := by decide +kernel
theorem sr_litBW_90 : Cond.stringRef "ChanceArena$Words" 90 "most" ∈ lw_tbl := zk_4 _ (List.mem_of_getElem? (i := 113) rfl)
theorem st_litBW_92 : (litC "ChanceArena$Words" 92 [99, 111, 110, 115, 116]).map some = [391, 392, 393, 394, 395, 396, 397, 398, 399].map (fun i => stF[i]?) := by decide +kernel
theorem sr_litBW_92 : Cond.stringRef "ChanceArena$Words" 92 "const" ∈ lw_tbl := zk_4 _ (List.mem_of_getElem? (i := 114) rfl)
theorem st_litBW_94 : (litC "ChanceArena$Words" 94 [102, 97, 108, 115, 101]).map some = [400, 401, 402, 403, 404, 405, 406, 407, 408].map (fun i => stF[i]?) := by decide +kernel
theorem sr_litBW_94 : Cond.stringRef "ChanceArena$Words" 94 "false" ∈ lw_tbl := zk_4 _ (List.mem_of_getElem? (i := 115) rfl)
theorem st_litBW_96 : (litC "ChanceArena$Words" 96 [108, 101, 97, 115, 116]).map some = [409, 410, 411, 412, 413, 414, 415, 416, 417].map (fun i => stF[i]?) := by decide +kernel
theorem sr_litBW_96 : Cond.stringRef "ChanceArena$Words" 96 "least" ∈ lw_tbl := zk_4 _ (List.mem_of_getElem? (i := 116) rfl)
theorem st_litBW_98 : (litC "ChanceArena$Words" 98 [116, 97, 114, 103, 101, 116]).map some = [418, 419, 420, 421, 422, 423, 424, 425, 426, 427].map (fun i => stF[i]?) := by decide +kernel
theorem sr_litBW_98 : Cond.stringRef "ChanceArena$Words" 98 "target" ∈ lw_tbl := zk_4 _ (List.mem_of_getElem? (i := 117) rfl)
theorem st_litBW_100 : (litC "ChanceArena$Words" 100 [102, 111, 114, 109, 117, 108, 97]).map some = [428, 429, 430, 431, 432, 433, 434, 435, 436, 437, 438].map (fun i => stF[i]?) := by decide +kernel
theorem sr_litBW_100 : Cond.stringRef "ChanceArena$Words" 100 "formula" ∈ lw_tbl := zk_4 _ (List.mem_of_getElem? (i := 118) rfl)
theorem st_litBM_176 : (litC "ChanceArenaModel" 176 [99, 111, 110, 115, 116]).map some = [511, 512, 513, 514, 515, 516, 517, 518, 519].map (fun i => stF[i]?) := by decide +kernel
theorem sr_litBM_176 : Cond.stringRef "ChanceArenaModel" 176 "const" ∈ lw_tbl := zk_11 _ (List.mem_of_getElem? (i := 38) rfl)
theorem st_litBM_182 : (litC "ChanceArenaModel" 182 [118, 97, 114]).map some = [521, 522, 523, 524, 525, 526, 527].map (fun i => stF[i]?) := by decide +kernel
theorem sr_litBM_182 : Cond.stringRef "ChanceArenaModel" 182 "var" ∈ lw_tbl := zk_11 _ (List.mem_of_getElem? (i := 45) rfl)
theorem st_litBM_184 : (litC "ChanceArenaModel" 184 [98, 111, 111, 108]).map some = [529, 530, 531, 532, 533, 534, 535, 536].map (fun i => stF[i]?) := by decide +kernel
theorem sr_litBM_184 : Cond.stringRef "ChanceArenaModel" 184 "bool" ∈ lw_tbl := zk_11 _ (List.mem_of_getElem? (i := 46) rfl)
theorem st_litBM_186 : (litC "ChanceArenaModel" 186 [102, 111, 114, 109, 117, 108, 97]).map some = [538, 539, 540, 541, 542, 543, 544, 545, 546, 547, 548].map (fun i => stF[i]?) := by decide +kernel
theorem sr_litBM_186 : Cond.stringRef "ChanceArenaModel" 186 "formula" ∈ lw_tbl := zk_11 _ (List.mem_of_getElem? (i := 47) rfl)
theorem st_litBM_188 : (litC "ChanceArenaModel" 188 [102, 97, 108, 115, 101]).map some = [550, 551, 552, 553, 554, 555, 556, 557, 558].map (fun i => stF[i]?) := by decide +kernel
theorem sr_litBM_188 : Cond.stringRef "ChanceArenaModel" 188 "false" ∈ lw_tbl := zk_11 _ (List.mem_of_getElem? (i := 48) rfl)
theorem st_litBM_190 : (litC "ChanceArenaModel" 190 [109, 97, 120]).map some = [560, 561, 562, 563, 564, 565, 566].map (fun i => stF[i]?) := by decide +kernel
theorem sr_litBM_190 : Cond.stringRef "ChanceArenaModel" 190 "max" ∈ lw_tbl := zk_11 _ (List.mem_of_getElem? (i := 49) rfl)
theorem st_litBM_192 : (litC "ChanceArenaModel" 192 [109, 105, 110]).map some = [568, 569, 570, 571, 572, 573, 574].map (fun i => stF[i]?) := by decide +kernel
theorem sr_litBM_192 : Cond.stringRef "ChanceArenaModel" 192 "min" ∈ lw_tbl := zk_11 _ (List.mem_of_getElem? (i := 50) rfl)
theorem st_litBM_194 : (litC "ChanceArenaModel" 194 [109, 111, 115, 116]).map some = [576, 577, 578, 579, 580, 581, 582, 583].map (fun i => stF[i]?) := by decide +kernel
theorem sr_litBM_194 : Cond.stringRef "ChanceArenaModel" 194 "most" ∈ lw_tbl := zk_11 _ (List.mem_of_getElem? (i := 51) rfl)
theorem st_litBM_196 : (litC "ChanceArenaModel" 196 [105, 110, 105, 116]).map some = [585, 586, 587, 588, 589, 590, 591, 592].map (fun i => stF[i]?) := by decide +kernel
theorem sr_litBM_196 : Cond.stringRef "ChanceArenaModel" 196 "init" ∈ lw_tbl := zk_11 _ (List.mem_of_getElem? (i := 52) rfl)
theorem st_litBM_198 : (litC "ChanceArenaModel" 198 [115, 116, 97, 121]).map some = [594, 595, 596, 597, 598, 599, 600, 601].map (fun i => stF[i]?) := by decide +kernel
theorem sr_litBM_198 : Cond.stringRef "ChanceArenaModel" 198 "stay" ∈ lw_tbl := zk_11 _ (List.mem_of_getElem? (i := 53) rfl)
theorem st_litBM_200 : (litC "ChanceArenaModel" 200 [116, 97, 114, 103, 101, 116]).map some = [603, 604, 605, 606, 607, 608, 609, 610, 611, 612].map (fun i => stF[i]?) := by decide +kernel
theorem sr_litBM_200 : Cond.stringRef "ChanceArenaModel" 200 "target" ∈ lw_tbl := zk_11 _ (List.mem_of_getElem? (i := 54) rfl)
theorem st_litBM_202 : (litC "ChanceArenaModel" 202 [116, 114, 117, 101]).map some = [614, 615, 616, 617, 618, 619, 620, 621].map (fun i => stF[i]?) := by decide +kernel
theorem sr_litBM_202 : Cond.stringRef "ChanceArenaModel" 202 "true" ∈ lw_tbl := zk_11 _ (List.mem_of_getElem? (i := 55) rfl)
theorem st_litBM_204 : (litC "ChanceArenaModel" 204 [108, 101, 97, 115, 116]).map some = [623, 624, 625, 626, 627, 628, 629, 630, 631].map (fun i => stF[i]?) := by decide +kernel
theorem sr_litBM_204 : Cond.stringRef "ChanceArenaModel" 204 "least" ∈ lw_tbl := zk_11 _ (List.mem_of_getElem? (i := 56) rfl)
theorem st_pr : ((List.range 36).map (fun j => Cond.eq (.elem (.static "ChanceArena$Residues" "PRIMES" "[I") (.int (Int32.ofNat j))) (.int (Int32.ofInt (prL.getD j 0))))).map some = [220, 221, 222, 223, 224, 225, 226, 227, 228, 229, 230, 231, 232, 233, 234, 235, 236, 237, 238, 239, 240, 241, 242, 243, 244, 245, 246, 247, 248, 249, 250, 251, 252, 253, 254, 255].map (fun i => stF[i]?) := by decide +kernel
section STT
variable {G : mG} {args : Array Value}
theorem st_all (hB : gB G = (gS G).heap.size) (htr : (gL G).stackTraces = false) (hts : ∀ w ∈ lw_tbl, w.before args (gS G) = true) (hn : (Jvm.Cond.and given_1 narrow_1).before args (gS G) = true) : LT G ∧ gPr G ∧ TH G := by
  have hs : ∀ w ∈ stF, w.before args (gS G) = true := flat_of_before _ hn
  have hJ : JD G := JD.of (args := args) hB (hts _ (zk_4 _ (List.mem_of_getElem? (i := 68) rfl))) (hts _ (zk_1 _ (List.mem_of_getElem? (i := 26) rfl))) (hs _ (List.mem_of_getElem? (i := 4) (by decide +kernel))) (hts _ (zk_4 _ (List.mem_of_getElem? (i := 84) rfl))) (hts _ (zk_1 _ (List.mem_of_getElem? (i := 28) rfl))) (hs _ (List.mem_of_getElem? (i := 5) (by decide +kernel)))
  refine ⟨LT.of (args := args) hB hJ (List.forall_mem_cons.mpr ⟨⟨hts _ sr_litBW_72, fun w hw => hs w (st_in st_litBW_72 w hw)⟩, List.forall_mem_cons.mpr ⟨⟨hts _ sr_litBW_78, fun w hw => hs w (st_in st_litBW_78 w hw)⟩, List.forall_mem_cons.mpr ⟨⟨hts _ sr_litBW_80, fun w hw => hs w (st_in st_litBW_80 w hw)⟩, List.forall_mem_cons.mpr ⟨⟨hts _ sr_litBW_82, fun w hw => hs w (st_in st_litBW_82 w hw)⟩, List.forall_mem_cons.mpr ⟨⟨hts _ sr_litBW_84, fun w hw => hs w (st_in st_litBW_84 w hw)⟩, List.forall_mem_cons.mpr ⟨⟨hts _ sr_litBW_86, fun w hw => hs w (st_in st_litBW_86 w hw)⟩, List.forall_mem_cons.mpr ⟨⟨hts _ sr_litBW_88, fun w hw => hs w (st_in st_litBW_88 w hw)⟩, List.forall_mem_cons.mpr ⟨⟨hts _ sr_litBW_90, fun w hw => hs w (st_in st_litBW_90 w hw)⟩, List.forall_mem_cons.mpr ⟨⟨hts _ sr_litBW_92, fun w hw => hs w (st_in st_litBW_92 w hw)⟩, List.forall_mem_cons.mpr ⟨⟨hts _ sr_litBW_94, fun w hw => hs w (st_in st_litBW_94 w hw)⟩, List.forall_mem_cons.mpr ⟨⟨hts _ sr_litBW_96, fun w hw => hs w (st_in st_litBW_96 w hw)⟩, List.forall_mem_cons.mpr ⟨⟨hts _ sr_litBW_98, fun w hw => hs w (st_in st_litBW_98 w hw)⟩, List.forall_mem_cons.mpr ⟨⟨hts _ sr_litBW_100, fun w hw => hs w (st_in st_litBW_100 w hw)⟩, fun _ h => absurd h List.not_mem_nil⟩⟩⟩⟩⟩⟩⟩⟩⟩⟩⟩⟩⟩) (List.forall_mem_cons.mpr ⟨⟨hts _ sr_litBM_176, fun w hw => hs w (st_in st_litBM_176 w hw)⟩, List.forall_mem_cons.mpr ⟨⟨hts _ sr_litBM_182, fun w hw => hs w (st_in st_litBM_182 w hw)⟩, List.forall_mem_cons.mpr ⟨⟨hts _ sr_litBM_184, fun w hw => hs w (st_in st_litBM_184 w hw)⟩, List.forall_mem_cons.mpr ⟨⟨hts _ sr_litBM_186, fun w hw => hs w (st_in st_litBM_186 w hw)⟩, List.forall_mem_cons.mpr ⟨⟨hts _ sr_litBM_188, fun w hw => hs w (st_in st_litBM_188 w hw)⟩, List.forall_mem_cons.mpr ⟨⟨hts _ sr_litBM_190, fun w hw => hs w (st_in st_litBM_190 w hw)⟩, List.forall_mem_cons.mpr ⟨⟨hts _ sr_litBM_192, fun w hw => hs w (st_in st_litBM_192 w hw)⟩, List.forall_mem_cons.mpr ⟨⟨hts _ sr_litBM_194, fun w hw => hs w (st_in st_litBM_194 w hw)⟩, List.forall_mem_cons.mpr ⟨⟨hts _ sr_litBM_196, fun w hw => hs w (st_in st_litBM_196 w hw)⟩, List.forall_mem_cons.mpr ⟨⟨hts _ sr_litBM_198, fun w hw => hs w (st_in st_litBM_198 w hw)⟩, List.forall_mem_cons.mpr ⟨⟨hts _ sr_litBM_200, fun w hw => hs w (st_in st_litBM_200 w hw)⟩, List.forall_mem_cons.mpr ⟨⟨hts _ sr_litBM_202, fun w hw => hs w (st_in st_litBM_202 w hw)⟩, List.forall_mem_cons.mpr ⟨⟨hts _ sr_litBM_204, fun w hw => hs w (st_in st_litBM_204 w hw)⟩, fun _ h => absurd h List.not_mem_nil⟩⟩⟩⟩⟩⟩⟩⟩⟩⟩⟩⟩⟩), gPr.of (args := args) hB (hts _ (zk_8 _ (List.mem_of_getElem? (i := 118) rfl))) (hts _ (zk_1 _ (List.mem_of_getElem? (i := 12) rfl))) (hs _ (List.mem_of_getElem? (i := 218) (by decide +kernel))) (hs _ (List.mem_of_getElem? (i := 219) (by decide +kernel))) (fun j hj => hs _ (st_in st_pr _ (List.mem_map.mpr ⟨j, List.mem_range.mpr hj, rfl⟩))), TH.of (args := args) hB htr (List.forall_mem_cons.mpr ⟨(hs _ (List.mem_of_getElem? (i := 9) (by decide +kernel))), List.forall_mem_cons.mpr ⟨(hs _ (List.mem_of_getElem? (i := 10) (by decide +kernel))), List.forall_mem_cons.mpr ⟨(hts _ (zk_6 _ (List.mem_of_getElem? (i := 45) rfl))), List.forall_mem_cons.mpr ⟨(hts _ (zk_6 _ (List.mem_of_getElem? (i := 47) rfl))), fun _ h => absurd h List.not_mem_nil⟩⟩⟩⟩)⟩
end STT
end
