/-! Math.floorMod. -/
theorem d_JM_floorMod_0 : decode y_JM_floorMod.2.1 0 = .ok (.lload_n 0, 1) := by decide +kernel
theorem d_JM_floorMod_1 : decode y_JM_floorMod.2.1 1 = .ok (.lload_n 2, 1) := by decide +kernel
theorem d_JM_floorMod_2 : decode y_JM_floorMod.2.1 2 = .ok (.lrem, 1) := by decide +kernel
theorem d_JM_floorMod_3 : decode y_JM_floorMod.2.1 3 = .ok (.lstore 4, 2) := by decide +kernel
theorem d_JM_floorMod_5 : decode y_JM_floorMod.2.1 5 = .ok (.lload_n 0, 1) := by decide +kernel
theorem d_JM_floorMod_6 : decode y_JM_floorMod.2.1 6 = .ok (.lload_n 2, 1) := by decide +kernel
theorem d_JM_floorMod_7 : decode y_JM_floorMod.2.1 7 = .ok (.lxor, 1) := by decide +kernel
theorem d_JM_floorMod_8 : decode y_JM_floorMod.2.1 8 = .ok (.lconst 0, 1) := by decide +kernel
theorem d_JM_floorMod_9 : decode y_JM_floorMod.2.1 9 = .ok (.lcmp, 1) := by decide +kernel
theorem d_JM_floorMod_10 : decode y_JM_floorMod.2.1 10 = .ok (.ifCond .ge 15, 3) := by decide +kernel
theorem d_JM_floorMod_13 : decode y_JM_floorMod.2.1 13 = .ok (.lload 4, 2) := by decide +kernel
theorem d_JM_floorMod_15 : decode y_JM_floorMod.2.1 15 = .ok (.lconst 0, 1) := by decide +kernel
theorem d_JM_floorMod_16 : decode y_JM_floorMod.2.1 16 = .ok (.lcmp, 1) := by decide +kernel
theorem d_JM_floorMod_17 : decode y_JM_floorMod.2.1 17 = .ok (.ifCond .eq 8, 3) := by decide +kernel
theorem d_JM_floorMod_20 : decode y_JM_floorMod.2.1 20 = .ok (.lload 4, 2) := by decide +kernel
theorem d_JM_floorMod_22 : decode y_JM_floorMod.2.1 22 = .ok (.lload_n 2, 1) := by decide +kernel
theorem d_JM_floorMod_23 : decode y_JM_floorMod.2.1 23 = .ok (.ladd, 1) := by decide +kernel
theorem d_JM_floorMod_24 : decode y_JM_floorMod.2.1 24 = .ok (.lreturn, 1) := by decide +kernel
theorem d_JM_floorMod_25 : decode y_JM_floorMod.2.1 25 = .ok (.lload 4, 2) := by decide +kernel
theorem d_JM_floorMod_27 : decode y_JM_floorMod.2.1 27 = .ok (.lreturn, 1) := by decide +kernel
theorem xorL_neg {x y : Int} (hx : i64 x) (hy : i64 y) (h : 0 < y) : xorL x y < 0 ↔ x < 0 := by
  have a : (Int64.ofInt x ^^^ Int64.ofInt y).toBitVec.msb = ((Int64.ofInt x).toBitVec.msb ^^ (Int64.ofInt y).toBitVec.msb) := by
    rw [Int64.toBitVec_xor, BitVec.msb_xor]
  have ex : (Int64.ofInt x).toBitVec.toInt = x := i64_toInt hx
  have ey : (Int64.ofInt y).toBitVec.toInt = y := i64_toInt hy
  have e : (Int64.ofInt x ^^^ Int64.ofInt y).toBitVec.toInt = xorL x y := rfl
  rw [BitVec.msb_eq_toInt, BitVec.msb_eq_toInt, BitVec.msb_eq_toInt, ex, ey, e, decide_eq_false (by omega : ¬ y < 0), Bool.xor_false] at a
  exact decide_eq_decide.1 a
theorem xorL_i64 {x y : Int} : i64 (xorL x y) := ⟨Int64.le_toInt _, Int64.toInt_lt _⟩
theorem s_JM_floorMod {G : mG} : FMs G := by
  intro d M x y ok hx h hy
  have ty : ∀ z : Int, i64 z → i64 (cmpL z 0) ∧ i32 (cmpL z 0) := fun z _ => by unfold cmpL; split <;> (try split) <;> exact ⟨⟨by decide, by decide⟩, ⟨by decide, by decide⟩⟩
  have b1 := Int.tmod_lt_of_pos x h
  have b2 : -y < x.tmod y := by
    have := Int.tmod_lt_of_pos (-x) h
    rw [Int.neg_tmod] at this
    omega
  have im : i64 (x.tmod y) := ⟨by have := hy.2; omega, by have := hy.2; omega⟩
  have s0 := xorL_neg hx hy h
  refine wm_open (y := y_JM_floorMod) rfl (Nat.le_of_ble_eq_true rfl) (L := [vl x, vd, vl y, vd, vd, vd]) rfl ?_
  refine wm_lload_n d_JM_floorMod_0 rfl rfl ?_
  refine wm_lload_n d_JM_floorMod_1 rfl rfl ?_
  refine wm_lrem d_JM_floorMod_2 hx hy (by omega) ?_
  refine wm_lstore d_JM_floorMod_3 (by decide) (L' := [vl x, vd, vl y, vd, vl (x.tmod y), vd]) rfl ?_
  refine wm_lload_n d_JM_floorMod_5 rfl rfl ?_
  refine wm_lload_n d_JM_floorMod_6 rfl rfl ?_
  refine wm_lxor d_JM_floorMod_7 ?_
  refine wm_lconst (x := 0) d_JM_floorMod_8 rfl ?_
  refine wm_lcmp d_JM_floorMod_9 xorL_i64 ⟨by decide, by decide⟩ ?_
  refine wm_if_ge (tgt := 25) d_JM_floorMod_10 rfl (ty _ xorL_i64).2 ?_ ?_
  · intro q
    have q' := (cmpz (xorL x y) 0).1.1 q
    have x0 : 0 ≤ x := by omega
    refine wm_lload d_JM_floorMod_25 rfl ?_
    refine wm_lreturn d_JM_floorMod_27 rfl ?_
    exact ⟨_, rfl, rfl, Int.tmod_nonneg y x0, b1⟩
  · intro q
    have q' : ¬ 0 ≤ xorL x y := fun u => q ((cmpz (xorL x y) 0).1.2 u)
    have x0 : x < 0 := s0.1 (by omega)
    have m0 : x.tmod y ≤ 0 := by
      have := Int.tmod_nonneg y (a := -x) (by omega)
      rw [Int.neg_tmod] at this
      omega
    refine wm_lload d_JM_floorMod_13 rfl ?_
    refine wm_lconst (x := 0) d_JM_floorMod_15 rfl ?_
    refine wm_lcmp d_JM_floorMod_16 im ⟨by decide, by decide⟩ ?_
    refine wm_if_eq (tgt := 25) d_JM_floorMod_17 rfl (ty _ im).2 ?_ ?_
    · intro c
      have c' := (cmpz (x.tmod y) 0).2.2.2.1.1 c
      refine wm_lload d_JM_floorMod_25 rfl ?_
      refine wm_lreturn d_JM_floorMod_27 rfl ?_
      exact ⟨_, rfl, rfl, by omega, by omega⟩
    · intro c
      have c' : x.tmod y ≠ 0 := fun u => c ((cmpz (x.tmod y) 0).2.2.2.1.2 u)
      refine wm_lload d_JM_floorMod_20 rfl ?_
      refine wm_lload_n d_JM_floorMod_22 rfl rfl ?_
      refine wm_ladd d_JM_floorMod_23 ?_
      refine wm_lreturn d_JM_floorMod_24 rfl ?_
      exact ⟨_, rfl, rfl, by omega, by omega⟩
