/-! Math.floorMod. -/
theorem d_JM_floorMod_0 : decode y_JM_floorMod.2.1 0 = .ok (.lload_n 0, 1) := by decide +kernel
theorem d_JM_floorMod_1 : decode y_JM_floorMod.2.1 1 = .ok (.lload_n 2, 1) := by decide +kernel
theorem d_JM_floorMod_2 : decode y_JM_floorMod.2.1 2 = .ok (.lrem, 1) := by decide +kernel
theorem d_JM_floorMod_3 : decode y_JM_floorMod.2.1 3 = .ok (.lstore 4, 2) := by decide +kernel
theorem d_JM_floorMod_5 : decode y_JM_floorMod.2.1 5 = .ok (.lload_n 0, 1) := by decide +kernel
theorem d_JM_floorMod_6 : decode y_JM_floorMod.2.1 6 = .ok (.lload_n 2, 1) := by decide +kernel
theorem d_JM_floorMod_7 : decode y_JM_floorMod.2.1 7 = .ok (.lxor, 1) := by decide +kernel
theorem d_JM_floorMod_8 : decode y_JM_floorMod.2.1 8 = .ok (.lconst 0, 1) := by decide +kernel
theorem d_JM_floorMod_9 : decode y_JM_floorMod.2.1 9 = .ok (.lcmp, 1) := by decide +kernel
theorem d_JM_floorMod_10 : decode y_JM_floorMod.2.1 10 = .ok (.ifCond .ge 15, 3) := by decide +kernel
theorem d_JM_floorMod_13 : decode y_JM_floorMod.2.1 13 = .ok (.lload 4, 2) := by decide +kernel
theorem d_JM_floorMod_15 : decode y_JM_floorMod.2.1 15 = .ok (.lconst 0, 1) := by decide +kernel
theorem d_JM_floorMod_16 : decode y_JM_floorMod.2.1 16 = .ok (.lcmp, 1) := by decide +kernel
theorem d_JM_floorMod_17 : decode y_JM_floorMod.2.1 17 = .ok (.ifCond .eq 8, 3) := by decide +kernel
theorem d_JM_floorMod_20 : decode y_JM_floorMod.2.1 20 = .ok (.lload 4, 2) := by decide +kernel
theorem d_JM_floorMod_22 : decode y_JM_floorMod.2.1 22 = .ok (.lload_n 2, 1) := by decide +kernel
theorem d_JM_floorMod_23 : decode y_JM_floorMod.2.1 23 = .ok (.ladd, 1) := by decide +kernel
theorem d_JM_floorMod_24 : decode y_JM_floorMod.2.1 24 = .ok (.lreturn, 1) := by decide +kernel
theorem d_JM_floorMod_25 : decode y_JM_floorMod.2.1 25 = .ok (.lload 4, 2) := by decide +kernel
theorem d_JM_floorMod_27 : decode y_JM_floorMod.2.1 27 = .ok (.lreturn, 1) := by decide +kernel
theorem Met.ofWF {l : Launch} {y : MethodName} {ws ws' : List Cond} {rm : Room} {Pc : Array Value → State → Prop} {Qc : Array Value → State → Outcome → State → Prop} {mc ms : Nat} {free : Addr → Prop} {cc : ByteArray} {maxL : Nat} {ret : Option FieldType}
    (hy : plainFor y = true) (hw : ws = Cond.code y cc maxL ret :: ws')
    (body : ∀ p e s m args below meth c s₁, BodyLoose p l y (headSpec ws rm) cc maxL ret e s m args below meth c s₁ → c.maxLocals = maxL → Pc args s →
      W p l e (headSpec ws rm).room s m args below meth c s.heap [] 0 0 (MQ below Qc args s mc ms free) (entryFrame m args maxL)) : Met l y ws rm Pc Qc mc ms free := by
  refine MetFree.of_bodySF (code := cc) (maxLocals := maxL) (ret := ret) hy ?_ ?_
  · intro args s m h hn
    obtain ⟨meth, c, h1, h2, h3, h4, h5, h6, -, -⟩ := Cond.code_spec hn (atoms_spec (ws := ws) h _ (by rw [hw]; exact List.mem_cons_self))
    exact ⟨meth, c, h1, h2, h3, h4, h5, h6⟩
  · intro p e s m args below meth c s₁ B hml hP _
    have hh0 : s₁.heap = s.heap := by rw [B.state]; rfl
    obtain ⟨t, a1, o, b1, b2, b3⟩ := body p e s m args below meth c s₁ B hml hP s₁ hh0 (Stand.of_body B)
    exact ⟨t, o, a1, b1, b2, ⟨b3.1, b3.2⟩⟩
theorem wm_openF {G : mG} {y : mY} {d : Nat} {L : List mV} {M : mM} {Q : Option mV → mM → Prop} {args : List mV} (hp : plainFor y.1 = true) (hlen : (mEnt args).length ≤ y.2.2.1) (hL : mEnt args ++ List.replicate (y.2.2.1 - (mEnt args).length) vd = L) (h : mWm G y d 0 L [] M Q) : mCm G y d args M Q := by
  obtain ⟨r, M', ⟨h1, h2⟩, h3⟩ := h
  refine ⟨r, M', ⟨h1, ?_⟩, h3⟩
  refine Met.ofWF (cc := y.2.1) (maxL := y.2.2.1) (ret := y.2.2.2) hp rfl ?_
  intro p e s m args9 below meth c s₁ B hml hv
  obtain ⟨rfl, hRep, hK, hh, hal⟩ := hv
  have hl := lv_entry (args.map mcv) (n := y.2.2.1) (by rw [mEnt_len]; exact hlen)
  rw [lg_entry_eq]
  generalize (lg_sl (args.map mcv) ++ List.replicate (y.2.2.1 - (lg_sl (args.map mcv)).length) Slot.unset).toArray = ls at hl ⊢
  have hLs : mLs ls y.2.2.1 L := by
    refine ⟨hl.1, hl.2.1, fun i v hi hv => ?_⟩
    rw [← hL] at hi
    by_cases q : i < (mEnt args).length
    · rw [List.getElem?_append_left q] at hi
      have := mEnt_args args 0 i v hi hv
      rw [Nat.zero_add] at this
      exact hl.2.2 _ this
    · rw [List.getElem?_append_right (by omega)] at hi
      have := List.mem_of_getElem? hi
      rw [List.eq_of_mem_replicate this] at hv
      cases hv
  have := h2 p e (headSpec (zW (yC y)) { frames := d, cells := mZ M' - mZ M, slots := mS M' - mS M, locals := 64 * d }).room s m (args.map mcv).toArray below meth c s.heap [] 0 0 ls ⟨B.exec, B.bytes, hml, B.returns, B.notSynchronized, (name_of_methodNamed B.named B.method).1, findClass_of_methodNamed B.named, hK, hh.use _, hh, hal, Nat.le_refl _, Nat.le_refl _⟩ hRep (fun q h => by cases h) (by rw [Nat.zero_add]; exact Nat.le_refl _) (by rw [Nat.zero_add]; exact Nat.le_refl _) hLs
  rw [Nat.zero_add, Nat.zero_add] at this
  exact this
theorem cmpz0 (z b : Int) : (0 ≤ cmpL z b ↔ b ≤ z) ∧ (cmpL z b ≤ 0 ↔ z ≤ b) ∧ (cmpL z b < 0 ↔ z < b) ∧ (cmpL z b = 0 ↔ z = b) ∧ (0 < cmpL z b ↔ b < z) := by unfold cmpL; split <;> (try split) <;> omega
theorem xorL_neg {x y : Int} (hx : i64 x) (hy : i64 y) (h : 0 < y) : xorL x y < 0 ↔ x < 0 := by
  have a : (Int64.ofInt x ^^^ Int64.ofInt y).toBitVec.msb = ((Int64.ofInt x).toBitVec.msb ^^ (Int64.ofInt y).toBitVec.msb) := by
    rw [Int64.toBitVec_xor, BitVec.msb_xor]
  have ex : (Int64.ofInt x).toBitVec.toInt = x := i64_toInt hx
  have ey : (Int64.ofInt y).toBitVec.toInt = y := i64_toInt hy
  have e : (Int64.ofInt x ^^^ Int64.ofInt y).toBitVec.toInt = xorL x y := rfl
  rw [BitVec.msb_eq_toInt, BitVec.msb_eq_toInt, BitVec.msb_eq_toInt, ex, ey, e, decide_eq_false (by omega : ¬ y < 0), Bool.xor_false] at a
  exact decide_eq_decide.1 a
theorem xorL_i64 {x y : Int} : i64 (xorL x y) := ⟨Int64.le_toInt _, Int64.toInt_lt _⟩
theorem s_JM_floorMod0 {G : mG} (d : Nat) (M : mM) (x y : Int) (hx : i64 x) (h : 0 < y) (hy : i64 y) : Cj G y_JM_floorMod d [vl x, vl y] M (fun v M' => M' = M ∧ (0 ≤ v ∧ v < y) ∧ v = x % y) := by
  have ty : ∀ z : Int, i64 z → i64 (cmpL z 0) ∧ i32 (cmpL z 0) := fun z _ => by unfold cmpL; split <;> (try split) <;> exact ⟨⟨by decide, by decide⟩, ⟨by decide, by decide⟩⟩
  have b1 := Int.tmod_lt_of_pos x h
  have b2 : -y < x.tmod y := by
    have := Int.tmod_lt_of_pos (-x) h
    rw [Int.neg_tmod] at this
    omega
  have im : i64 (x.tmod y) := ⟨by have := hy.2; omega, by have := hy.2; omega⟩
  have s0 := xorL_neg hx hy h
  refine wm_openF (y := y_JM_floorMod) (by first | exact Jvm.Free.JP.mathPlain rfl (by decide +kernel) | decide +kernel) (Nat.le_of_ble_eq_true rfl) (L := [vl x, vd, vl y, vd, vd, vd]) rfl ?_
  refine wm_lload_n d_JM_floorMod_0 rfl rfl ?_
  refine wm_lload_n d_JM_floorMod_1 rfl rfl ?_
  refine wm_lrem d_JM_floorMod_2 hx hy (by omega) ?_
  refine wm_lstore d_JM_floorMod_3 (by decide) (L' := [vl x, vd, vl y, vd, vl (x.tmod y), vd]) rfl ?_
  refine wm_lload_n d_JM_floorMod_5 rfl rfl ?_
  refine wm_lload_n d_JM_floorMod_6 rfl rfl ?_
  refine wm_lxor d_JM_floorMod_7 ?_
  refine wm_lconst (x := 0) d_JM_floorMod_8 rfl ?_
  refine wm_lcmp d_JM_floorMod_9 xorL_i64 ⟨by decide, by decide⟩ ?_
  refine wm_if_ge (tgt := 25) d_JM_floorMod_10 rfl (ty _ xorL_i64).2 ?_ ?_
  · intro q
    have q' := (cmpz0 (xorL x y) 0).1.1 q
    have x0 : 0 ≤ x := by omega
    refine wm_lload d_JM_floorMod_25 rfl ?_
    refine wm_lreturn d_JM_floorMod_27 rfl ?_
    exact ⟨_, rfl, rfl, ⟨Int.tmod_nonneg y x0, b1⟩, Int.tmod_eq_emod_of_nonneg x0⟩
  · intro q
    have q' : ¬ 0 ≤ xorL x y := fun u => q ((cmpz0 (xorL x y) 0).1.2 u)
    have x0 : x < 0 := s0.1 (by omega)
    have m0 : x.tmod y ≤ 0 := by
      have := Int.tmod_nonneg y (a := -x) (by omega)
      rw [Int.neg_tmod] at this
      omega
    refine wm_lload d_JM_floorMod_13 rfl ?_
    refine wm_lconst (x := 0) d_JM_floorMod_15 rfl ?_
    refine wm_lcmp d_JM_floorMod_16 im ⟨by decide, by decide⟩ ?_
    refine wm_if_eq (tgt := 25) d_JM_floorMod_17 rfl (ty _ im).2 ?_ ?_
    · intro c
      have c' := (cmpz0 (x.tmod y) 0).2.2.2.1.1 c
      refine wm_lload d_JM_floorMod_25 rfl ?_
      refine wm_lreturn d_JM_floorMod_27 rfl ?_
      exact ⟨_, rfl, rfl, ⟨by omega, by omega⟩, by rw [c', Int.emod_eq_zero_of_dvd (Int.dvd_of_tmod_eq_zero c')]⟩
    · intro c
      have c' : x.tmod y ≠ 0 := fun u => c ((cmpz0 (x.tmod y) 0).2.2.2.1.2 u)
      refine wm_lload d_JM_floorMod_20 rfl ?_
      refine wm_lload_n d_JM_floorMod_22 rfl rfl ?_
      refine wm_ladd d_JM_floorMod_23 ?_
      refine wm_lreturn d_JM_floorMod_24 rfl ?_
      have e1 : x = (x.tmod y + y) + y * (x.tdiv y - 1) := by
        have e0 := Int.mul_tdiv_add_tmod x y
        rw [Int.mul_sub]
        omega
      have e2 : ((x.tmod y + y) + y * (x.tdiv y - 1)) % y = x.tmod y + y := by
        rw [Int.add_mul_emod_self_left]
        exact Int.emod_eq_of_lt (by omega) (by omega)
      rw [← e1] at e2
      exact ⟨_, rfl, rfl, ⟨by omega, by omega⟩, e2.symm⟩
