section
/-! THE FLAT MACHINE'S RULES: rows of the library, switches, small rows for numbers. -/
theorem m_i32 (z : Int32) : i32 z.toInt := ⟨Int32.le_toInt z, Int32.toInt_lt z⟩
theorem m_i64 (z : Int64) : i64 z.toInt := ⟨Int64.le_toInt z, Int64.toInt_lt z⟩
theorem m_cmp32 (x z : Int) : i32 (cmpL x z) := by
  unfold cmpL i32
  split
  · omega
  · split <;> omega
theorem i64_of32 {x : Int} (h : i32 x) : i64 x := by unfold i32 at h; unfold i64; omega
theorem m_b32 {x : Int} (h : x = 0 ∨ x = 1) : i32 x := by unfold i32; omega
theorem m_nb {x : Int} (h : x = 0 ∨ x = 1) : narrow .boolean (.int (Int32.ofInt x)) = .int (Int32.ofInt x) := by rcases h with q | q <;> subst q <;> rfl
theorem m_ite32 {c : Prop} [Decidable c] {x z : Int} (hx : i32 x) (hz : i32 z) : i32 (if c then x else z) := by split <;> assumption
theorem m_tmod32 {x z : Int} (hx : i32 x) (_ : i32 z) : i32 (Int.tmod x z) := by
  have h1 := Int.natAbs_tmod x z
  have h2 := Nat.mod_le x.natAbs z.natAbs
  unfold i32 at *
  rcases Int.le_total 0 x with q | q
  · have := Int.tmod_nonneg z q
    omega
  · have : Int.tmod x z ≤ 0 := by
      have := Int.tmod_nonneg z (show 0 ≤ -x by omega)
      rw [Int.neg_tmod] at this
      omega
    omega
theorem m_tmod64 {x z : Int} (hx : i64 x) (_ : i64 z) : i64 (Int.tmod x z) := by
  have h1 := Int.natAbs_tmod x z
  have h2 := Nat.mod_le x.natAbs z.natAbs
  unfold i64 at *
  rcases Int.le_total 0 x with q | q
  · have := Int.tmod_nonneg z q
    omega
  · have : Int.tmod x z ≤ 0 := by
      have := Int.tmod_nonneg z (show 0 ≤ -x by omega)
      rw [Int.neg_tmod] at this
      omega
    omega
theorem m_tdivB {x z : Int} (hz : 0 < z) : (x.tdiv z).natAbs ≤ x.natAbs := by
  rw [Int.natAbs_tdiv]
  exact Nat.div_le_self _ _
theorem m_tdiv32 {x z : Int} (hx : i32 x) (hz : 0 < z) : i32 (Int.tdiv x z) := by
  have h1 := m_tdivB (x := x) hz
  unfold i32 at *
  rcases Int.le_total 0 x with q | q
  · have := Int.tdiv_nonneg q (Int.le_of_lt hz)
    omega
  · have : Int.tdiv x z ≤ 0 := by
      have := Int.tdiv_nonneg (show 0 ≤ -x by omega) (Int.le_of_lt hz)
      rw [Int.neg_tdiv] at this
      omega
    omega
/-- a stretch of one array into another -/
def mCpy (M : mM) (a0 a sp dp n : Nat) : mM := (mK M, mN M, fun b j => if b = a ∧ dp ≤ j ∧ j < dp + n then mI M a0 (sp + (j - dp)) else mI M b j, mL M, mR M, mZ M, mS M)
theorem mOk_Cpy {M : mM} {a0 a sp dp n : Nat} (h : mOk M) : mOk (mCpy M a0 a sp dp n) := by
  intro b j
  refine ⟨?_, (h b j).2⟩
  show i32 (if _ then _ else _)
  split
  · exact (h _ _).1
  · exact (h _ _).1
def xorL (x z : Int) : Int := (Int64.ofInt x ^^^ Int64.ofInt z).toInt
def nfw : Nat := nativeFrameWords "java/lang/System" "arraycopy" 5
theorem nfw_le : nfw + 11 ≤ 48 := by decide
section JRules
variable {G : mG} {y : mY} {d pc : Nat} {L st : List mV} {M M1 : mM} {Q : Option mV → mM → Prop}
theorem wm_iastE {a : Nat} {i x : Int} (hd : decode y.2.1 pc = .ok (.iastore, 1)) (hK : mK M a = 30) (hi : 0 ≤ i ∧ i < mN M a) (hx3 : i32 x) (e : M1 = mUI M a i.toNat x) (h : mWm G y d (pc + 1) L st M1 Q) : mWm G y d pc L (vi x :: vi i :: vr a :: st) M Q := by subst e; exact wm_iast hd hK hi hx3 h
theorem wm_zastE {a : Nat} {i x : Int} (hd : decode y.2.1 pc = .ok (.bastore, 1)) (hK : mK M a = 31) (hi : 0 ≤ i ∧ i < mN M a) (hx3 : x = 0 ∨ x = 1) (e : M1 = mUI M a i.toNat x) (h : mWm G y d (pc + 1) L st M1 Q) : mWm G y d pc L (vi x :: vi i :: vr a :: st) M Q := by subst e; exact wm_zast hd hK hi hx3 h
theorem wm_castE {a : Nat} {i x : Int} (hd : decode y.2.1 pc = .ok (.castore, 1)) (hK : mK M a = 32) (hi : 0 ≤ i ∧ i < mN M a) (hx3 : 0 ≤ x ∧ x < 65536) (e : M1 = mUI M a i.toNat x) (h : mWm G y d (pc + 1) L st M1 Q) : mWm G y d pc L (vi x :: vi i :: vr a :: st) M Q := by subst e; exact wm_cast hd hK hi hx3 h
theorem wm_lastE {a : Nat} {i x : Int} (hd : decode y.2.1 pc = .ok (.lastore, 1)) (hK : mK M a = 33) (hi : 0 ≤ i ∧ i < mN M a) (hx3 : i64 x) (e : M1 = mUL M a i.toNat x) (h : mWm G y d (pc + 1) L st M1 Q) : mWm G y d pc L (vl x :: vi i :: vr a :: st) M Q := by subst e; exact wm_last hd hK hi hx3 h
theorem wm_aastE {t c a v : Nat} {i : Int} {r : vw_C} (hty : arTy[t]? = some (.object r.1)) (hz : ∀ tA, (zT tA)[t]? = some (tA t, .object r.1)) (hcl : vwCl[c]? = some r) {t9 : Nat → FieldType} (hvt : vwTy[c]? = some t9) (hd : decode y.2.1 pc = .ok (.aastore, 1)) (hK : mK M a = 30 + t) (hi : 0 ≤ i ∧ i < mN M a) (hKv : mK M v = c + 1) (e : M1 = mUR M a i.toNat v) (h : mWm G y d (pc + 1) L st M1 Q) : mWm G y d pc L (vr v :: vi i :: vr a :: st) M Q := by subst e; exact wm_aast hty hz hcl hvt hd hK hi hKv h
theorem wm_newarrE (t : Nat) {atype : ArrayType} {ty : FieldType} (hat : newarray.typeOf atype = ty) (hty : arTy[t]? = some ty) (hz : ∀ tA, (zT tA)[t]? = some (tA t, ty)) (hpr : ty.isReference = false) (hdf : defaultValue ty = dV ty) (hcb : componentBytes ty ≤ 8) (hw : Cond.arrayClass ty ∈ lw_R) {n : Int} (hn : 0 ≤ n ∧ n ≤ 16777216) (hd : decode y.2.1 pc = .ok (.newarray atype, 2)) (e : M1 = mNew M (30 + t) n.toNat n.toNat) (h : mWm G y d (pc + 2) L (vr (mZ M) :: st) M1 Q) : mWm G y d pc L (vi n :: st) M Q := by
  subst e
  exact wm_newarr t hat hty hz (fun C q => by rw [q] at hpr; cases hpr) hdf hcb hw hn hd h
theorem wm_anewE (t : Nat) {C : String} {idx : Nat} (hty : arTy[t]? = some (.object C)) (hz : ∀ tA, (zT tA)[t]? = some (tA t, .object C)) (hw1 : Cond.classLink y.1.cls idx C ∈ lw_R) (hw2 : Cond.arrayOver (.object C) ∈ lw_R) {n : Int} (hn : 0 ≤ n ∧ n ≤ 16777216) (hd : decode y.2.1 pc = .ok (.anewarray idx, 3)) (e : M1 = mNew M (30 + t) n.toNat n.toNat) (h : mWm G y d (pc + 3) L (vr (mZ M) :: st) M1 Q) : mWm G y d pc L (vi n :: st) M Q := by subst e; exact wm_anew t hty hz hw1 hw2 hn hd h
theorem wm_lookup {x dflt : Int} {ps : Array (Int × Int)} {len : Nat} {off : Int} {tgt : Nat} (hd : decode y.2.1 pc = .ok (.lookupswitch dflt ps, len)) (hp : (ps.toList.zip (ps.toList.drop 1)).all (fun (a, next) => a.1 < next.1) = true) (hx : i32 x) (ho : Op.lookupswitch.offset ps.toList dflt x = off) (ht : (pc : Int) + off = (tgt : Int)) (h : mWm G y d tgt L st M Q) : mWm G y d pc L (vi x :: st) M Q :=
  wm_st (fun p e R s m args below meth c H locs cells slots ls Qf hA hR hL k => lv_lookup hA.1 hA.2.1 hd hp (by rw [i32_toInt hx]; exact ho) ht k) h
theorem wm_tableIn {x dflt lo hi : Int} {offs : Array Int} {len : Nat} {off : Int} {tgt : Nat} (hd : decode y.2.1 pc = .ok (.tableswitch dflt lo hi offs, len)) (hx : i32 x) (h1 : lo ≤ x) (h2 : x ≤ hi) (ho : offs[(x - lo).toNat]? = some off) (ht : (pc : Int) + off = (tgt : Int)) (h : mWm G y d tgt L st M Q) : mWm G y d pc L (vi x :: st) M Q :=
  wm_st (fun p e R s m args below meth c H locs cells slots ls Qf hA hR hL k => lv_tableIn hA.1 hA.2.1 hd (by rw [i32_toInt hx]; omega) (by rw [i32_toInt hx]; omega) (by rw [i32_toInt hx]; exact ho) ht k) h
theorem wm_tableOut {x dflt lo hi : Int} {offs : Array Int} {len : Nat} {tgt : Nat} (hd : decode y.2.1 pc = .ok (.tableswitch dflt lo hi offs, len)) (hx : i32 x) (h1 : x < lo ∨ hi < x) (ht : (pc : Int) + dflt = (tgt : Int)) (h : mWm G y d tgt L st M Q) : mWm G y d pc L (vi x :: st) M Q :=
  wm_st (fun p e R s m args below meth c H locs cells slots ls Qf hA hR hL k => lv_tableOut hA.1 hA.2.1 hd (by rw [i32_toInt hx]; exact h1) ht k) h
theorem wm_tableD {x dflt lo hi : Int} {offs : Array Int} {len : Nat} {off : Int} {tgt : Nat} (hd : decode y.2.1 pc = .ok (.tableswitch dflt lo hi offs, len)) (hx : i32 x) (h1 : (x < lo ∨ hi < x) ∨ (lo ≤ x ∧ x ≤ hi ∧ offs[(x - lo).toNat]? = some dflt)) (ht : (pc : Int) + dflt = (tgt : Int)) (h : mWm G y d tgt L st M Q) : mWm G y d pc L (vi x :: st) M Q := by
  rcases h1 with h1 | ⟨h1, h2, h3⟩
  · exact wm_tableOut hd hx h1 ht h
  · exact wm_tableIn hd hx h1 h2 h3 ht h
/-- a step that changes the stack alone, with the room -/
theorem wm_st2 {pc' : Nat} {st' : List mV} (hs : ∀ (p : Program) (e : Env) (R : Room) (s : State) (m : MethodId) (args : Array Value) (below : List Frame) (meth : Method) (c : Code) (H : Heap) (locs : List Loc) (cells slots : Nat) (ls : Array Slot) (Qf : State → Prop), mAt G y d p R s m args meth c → mRep G M H → mLs ls y.2.2.1 L → cells ≤ R.cells → slots ≤ R.slots → W p (gL G) e R s m args below meth c H locs cells slots Qf (F0 m pc' ls (st'.map mcv)) → W p (gL G) e R s m args below meth c H locs cells slots Qf (F0 m pc ls (st.map mcv))) (h : mWm G y d pc' L st' M Q) : mWm G y d pc L st M Q := by
  obtain ⟨r, M', ⟨h1, h2⟩, h3⟩ := h
  exact ⟨r, M', ⟨h1, fun p e R s m args below meth c H locs cells slots ls hA hR hl hc hs' hL => hs p e R s m args below meth c H locs cells slots ls _ hA hR hL (by omega) (by omega) (h2 p e R s m args below meth c H locs cells slots ls hA hR hl hc hs' hL)⟩, h3⟩
theorem wm_mmax {idx : Nat} {x z : Int} (hw : Cond.methodLink y.1.cls idx Lib.Math.max.name ∈ lw_R) (hs : (st.map mcat).sum ≤ 8) (hx : i32 x) (hz : i32 z) (hd : decode y.2.1 pc = .ok (.invokestatic idx, 3)) (h : mWm G y (d + 1) (pc + 3) L (vi (if x < z then z else x) :: st) M Q) : mWm G y (d + 1) pc L (vi z :: vi x :: st) M Q :=
  wm_st2 (fun p e R s m args below meth c H locs cells slots ls Qf hA hR hL hc hs9 k => by
    obtain ⟨hx9, hb, hml, -, -, -, hown, hKK, hts, hh, hal, hfr, hlo⟩ := hA
    have k' : W p (gL G) e R s m args below meth c H locs cells slots Qf (F0 m (pc + 3) ls (.int (if Int32.ofInt x < Int32.ofInt z then Int32.ofInt z else Int32.ofInt x) :: st.map mcv)) := by
      rw [show (if Int32.ofInt x < Int32.ofInt z then Int32.ofInt z else Int32.ofInt x) = Int32.ofInt (if x < z then z else x) by
        by_cases q : x < z
        · rw [if_pos q, if_pos ((i32_lt hx hz).mpr q)]
        · rw [if_neg q, if_neg (fun w => q ((i32_lt hx hz).mp w))]]
      exact k
    exact va_mmax hx9 hb (hml.trans hL.1.symm) hown (hts _ hw) (hts _ kJ_max_s) (hts _ kJ_math) (hts _ kJ_max_c) (by omega) (by rw [m_cats]; omega) hc hs9 hd k') h
theorem wm_mmin {idx : Nat} {x z : Int} (hw : Cond.methodLink y.1.cls idx Lib.Math.min.name ∈ lw_R) (hs : (st.map mcat).sum ≤ 8) (hx : i32 x) (hz : i32 z) (hd : decode y.2.1 pc = .ok (.invokestatic idx, 3)) (h : mWm G y (d + 1) (pc + 3) L (vi (if z < x then z else x) :: st) M Q) : mWm G y (d + 1) pc L (vi z :: vi x :: st) M Q :=
  wm_st2 (fun p e R s m args below meth c H locs cells slots ls Qf hA hR hL hc hs9 k => by
    obtain ⟨hx9, hb, hml, -, -, -, hown, hKK, hts, hh, hal, hfr, hlo⟩ := hA
    have k' : W p (gL G) e R s m args below meth c H locs cells slots Qf (F0 m (pc + 3) ls (.int (if Int32.ofInt z < Int32.ofInt x then Int32.ofInt z else Int32.ofInt x) :: st.map mcv)) := by
      rw [show (if Int32.ofInt z < Int32.ofInt x then Int32.ofInt z else Int32.ofInt x) = Int32.ofInt (if z < x then z else x) by
        by_cases q : z < x
        · rw [if_pos q, if_pos ((i32_lt hz hx).mpr q)]
        · rw [if_neg q, if_neg (fun w => q ((i32_lt hz hx).mp w))]]
      exact k
    exact va_mmin hx9 hb (hml.trans hL.1.symm) hown (hts _ hw) (hts _ kJ_min_s) (hts _ kJ_math) (hts _ kJ_min_c) (by omega) (by rw [m_cats]; omega) hc hs9 hd k') h
theorem wm_mminl {idx : Nat} {x z : Int} (hw : Cond.methodLink y.1.cls idx Lib.MathLoose.min_long.x ∈ lw_R) (hs : (st.map mcat).sum ≤ 8) (hx : i64 x) (hz : i64 z) (hd : decode y.2.1 pc = .ok (.invokestatic idx, 3)) (h : mWm G y (d + 1) (pc + 3) L (vl (if z < x then z else x) :: st) M Q) : mWm G y (d + 1) pc L (vl z :: vl x :: st) M Q :=
  wm_st2 (fun p e R s m args below meth c H locs cells slots ls Qf hA hR hL hc hs9 k => by
    obtain ⟨hx9, hb, hml, -, -, -, hown, hKK, hts, hh, hal, hfr, hlo⟩ := hA
    have k' : W p (gL G) e R s m args below meth c H locs cells slots Qf (F0 m (pc + 3) ls (.long (if Int64.ofInt z < Int64.ofInt x then Int64.ofInt z else Int64.ofInt x) :: st.map mcv)) := by
      rw [show (if Int64.ofInt z < Int64.ofInt x then Int64.ofInt z else Int64.ofInt x) = Int64.ofInt (if z < x then z else x) by
        by_cases q : z < x
        · rw [if_pos q, if_pos ((i64_lt hz hx).mpr q)]
        · rw [if_neg q, if_neg (fun w => q ((i64_lt hz hx).mp w))]]
      exact k
    exact va_mmin_long hx9 hb (hml.trans hL.1.symm) hown (hts _ hw) (hts _ kJ_minl_s) (hts _ kJ_math) (hts _ kJ_minl_c) (by omega) (by rw [m_cats]; omega) hc hs9 hd k') h
theorem wm_mabsl {idx : Nat} {x : Int} (hw : Cond.methodLink y.1.cls idx Lib.MathLoose.abs_long.x ∈ lw_R) (hs : (st.map mcat).sum ≤ 8) (hx : i64 x) (hd : decode y.2.1 pc = .ok (.invokestatic idx, 3)) (h : mWm G y (d + 1) (pc + 3) L (vl (if 0 < x then x else -x) :: st) M Q) : mWm G y (d + 1) pc L (vl x :: st) M Q :=
  wm_st2 (fun p e R s m args below meth c H locs cells slots ls Qf hA hR hL hc hs9 k => by
    obtain ⟨hx9, hb, hml, -, -, -, hown, hKK, hts, hh, hal, hfr, hlo⟩ := hA
    have k' : W p (gL G) e R s m args below meth c H locs cells slots Qf (F0 m (pc + 3) ls (.long (if 0 < Int64.ofInt x then Int64.ofInt x else -Int64.ofInt x) :: st.map mcv)) := by
      have e0 : (0 : Int64) < Int64.ofInt x ↔ 0 < x := i64_lt (x := 0) ⟨by decide, by decide⟩ hx
      rw [show (if 0 < Int64.ofInt x then Int64.ofInt x else -Int64.ofInt x) = Int64.ofInt (if 0 < x then x else -x) by
        by_cases q : 0 < x
        · rw [if_pos q, if_pos (e0.mpr q)]
        · rw [if_neg q, if_neg (fun w => q (e0.mp w)), Int64.ofInt_neg]]
      exact k
    exact va_mabs_long hx9 hb (hml.trans hL.1.symm) hown (hts _ hw) (hts _ kJ_absl_s) (hts _ kJ_math) (hts _ kJ_absl_c) (by omega) (by rw [m_cats]; omega) hc hs9 hd k') h
/-- the class's primes -/
theorem wm_prLen {idx : Nat} (hw : Cond.fieldLink y.1.cls idx "ChanceArena$Residues" "PRIMES" "[I" ∈ lw_R) (hd : decode y.2.1 pc = .ok (.getstatic idx, 3)) (hd2 : decode y.2.1 (pc + 3) = .ok (.arraylength, 1)) (h : mWm G y d (pc + 4) L (vi 36 :: st) M Q) : mWm G y d pc L st M Q :=
  wm_st (fun p e R s m args below meth co H locs cells slots ls Qf hA hR hL kk => by
    obtain ⟨hx, hb, hml, -, -, -, hown, hKK, hts, hh, hal, -⟩ := hA
    obtain ⟨t, hZ, hT⟩ := hR.2.1.2
    have hq : ∀ a : Nat, a < (gS G).heap.size → ¬ mOwn G a → H[a]? = (gS G).heap[a]? := fun a _ ha => hR.2.2.2.2.1 a (Nat.not_le.mp ha)
    obtain ⟨cf, kf, fi, f, a, cell, h1, h2, h3, h4, h5, h6, h7, h8⟩ := (hZ.moved hal.1).kept hq
    obtain ⟨cell2, g1, g2, g3, g4, g5, g6, g7⟩ := (hT.moved hal.1).kept hq
    refine W.gets hx hb hown (hts _ hw) h1 h2 h3 h4 h5 (fun e => by rw [e] at h6; cases h6) h7 rfl hd ?_
    exact W.alen (n := 36) hx hb g1 g2 g5 rfl rfl hd2 kk) h
theorem wm_prAt {idx : Nat} {i : Int} (hw : Cond.fieldLink y.1.cls idx "ChanceArena$Residues" "PRIMES" "[I" ∈ lw_R) (hd : decode y.2.1 pc = .ok (.getstatic idx, 3)) {k0 : Nat} (hv : L[k0]? = some (vi i)) (hi : 0 ≤ i ∧ i < 36) {ins : Instr} {ln : Nat} (hins : (∃ k9 : Fin 4, (k9 : Nat) = k0 ∧ ins = .iload_n k9 ∧ ln = 1) ∨ (ins = .iload k0 ∧ ln = 2)) (hd2 : decode y.2.1 (pc + 3) = .ok (ins, ln)) (hd3 : decode y.2.1 (pc + 3 + ln) = .ok (.iaload, 1)) (h : mWm G y d (pc + 3 + ln + 1) L (vi (prL.getD i.toNat 0) :: st) M Q) : mWm G y d pc L st M Q :=
  wm_st (fun p e R s m args below meth co H locs cells slots ls Qf hA hR hL kk => by
    obtain ⟨hx, hb, hml, -, -, -, hown, hKK, hts, hh, hal, -⟩ := hA
    obtain ⟨t, hZ, hT⟩ := hR.2.1.2
    have hi3 : i32 i := ⟨by omega, by omega⟩
    have hq : ∀ a : Nat, a < (gS G).heap.size → ¬ mOwn G a → H[a]? = (gS G).heap[a]? := fun a _ ha => hR.2.2.2.2.1 a (Nat.not_le.mp ha)
    obtain ⟨cf, kf, fi, f, a, cell, h1, h2, h3, h4, h5, h6, h7, h8⟩ := (hZ.moved hal.1).kept hq
    obtain ⟨cell2, g1, g2, g3, g4, g5, g6, g7⟩ := (hT.moved hal.1).kept hq
    refine W.gets hx hb hown (hts _ hw) h1 h2 h3 h4 h5 (fun e => by rw [e] at h6; cases h6) h7 rfl hd ?_
    have k2 : W p (gL G) e R s m args below meth co H locs cells slots Qf (F0 m (pc + 3 + ln) ls (.int (Int32.ofInt i) :: .ref t :: st.map mcv)) := W.iald (v := mcv (vi (prL.getD i.toNat 0))) hx hb g1 g2 g3 (by rw [i32_lt0 hi3, i32_clamp hi3]; omega) (by rw [i32_clamp hi3]; exact g6 _ (by omega)) rfl rfl hd3 kk
    rcases hins with ⟨k9, e1, e2, e3⟩ | ⟨e2, e3⟩
    · subst e2; subst e3
      exact lv_iload_n hx hb hd2 e1 (hL.at hv rfl) k2
    · subst e2; subst e3
      exact lv_iload hx hb hd2 (hL.at hv rfl) k2) h
theorem wm_lxor {x z : Int} (hd : decode y.2.1 pc = .ok (.lxor, 1)) (h : mWm G y d (pc + 1) L (vl (xorL x z) :: st) M Q) : mWm G y d pc L (vl z :: vl x :: st) M Q :=
  wm_st (fun p e R s m args below meth c H locs cells slots ls Qf hA hR hL k => by
    have k' : W p (gL G) e R s m args below meth c H locs cells slots Qf (F0 m (pc + 1) ls (.long (Int64.ofInt (xorL x z)) :: st.map mcv)) := k
    rw [show Int64.ofInt (xorL x z) = _ from Int64.ofInt_toInt _] at k'
    exact lv_lxor hA.1 hA.2.1 hd k') h
/-- System.arraycopy, ints or chars -/
theorem wm_copy {idx t a0 a : Nat} {ty : FieldType} {sp dp n : Int} (hty : arTy[t]? = some ty) (hz : ∀ tA, (zT tA)[t]? = some (tA t, ty)) (hfv : ∀ (M : mM) (b j : Nat), fV ty M b j = .int (Int32.ofInt (mI M b j))) (hprim : refKind ty = false) (hw : Cond.methodLink y.1.cls idx arraycopyName ∈ lw_R) (hs : (st.map mcat).sum ≤ 8) (hK0 : mK M a0 = 30 + t) (hK : mK M a = 30 + t) (hb9 : 0 ≤ sp ∧ 0 ≤ dp ∧ 0 ≤ n ∧ sp + n ≤ mN M a0 ∧ dp + n ≤ mN M a) (hfit : ∀ i : Nat, (i : Int) < n → fits ty (.int (Int32.ofInt (mI M a0 (sp.toNat + i)))) = true) (hd : decode y.2.1 pc = .ok (.invokestatic idx, 3)) (e9 : M1 = mCpy M a0 a sp.toNat dp.toNat n.toNat) (h : mWm G y (d + 1) (pc + 3) L st M1 Q) : mWm G y (d + 1) pc L (vi n :: vi dp :: vr a :: vi sp :: vr a0 :: st) M Q := by
  subst e9
  refine wm_wr (M1 := mCpy M a0 a sp.toNat dp.toNat n.toNat) rfl rfl (fun p e R s m args below meth co H locs cells slots ls Qf hA hR hlo hL kk => ?_) h
  obtain ⟨g1, g2, g3⟩ := (hR.2.2.2.2.2.2 a).2.1 t _ hK hty
  obtain ⟨u1, u2, u3⟩ := (hR.2.2.2.2.2.2 a0).2.1 t _ hK0 hty
  obtain ⟨hx, hb, hml, -, -, -, hown, hKK, hts, hh, hal, hfr, hlc⟩ := hA
  have hfe : ∀ b : Nat, (fun j => fV ty M b j) = fun j => Value.int (Int32.ofInt (mI M b j)) := fun b => funext (fun j => hfv M b j)
  rw [hfe] at g3 u3
  show W p (gL G) e R s m args below meth co H locs cells slots Qf (F0 m pc ls (.int (Int32.ofInt n) :: .int (Int32.ofInt dp) :: mcv (vr a) :: .int (Int32.ofInt sp) :: mcv (vr a0) :: st.map mcv))
  rw [hR.own g1, hR.own u1]
  have hsp : i32 sp := ⟨by omega, by omega⟩
  have hdp : i32 dp := ⟨by omega, by omega⟩
  have hn : i32 n := ⟨by omega, by omega⟩
  intro T hT X
  obtain ⟨-, k0, hk0, cm0, hkk0⟩ := (hKK.2 t _ (hz _)).1 (mN M a0) (fun j => Value.int (Int32.ofInt (mI M a0 j)))
  obtain ⟨-, k1, hk1, cm1, hkk1⟩ := (hKK.2 t _ (hz _)).1 (mN M a) (fun j => Value.int (Int32.ofInt (mI M a j)))
  have hl : a < H.size := (Array.getElem?_eq_some_iff.mp g3).1
  obtain ⟨vm', X', step⟩ := X.arraycopy hx hown (hts _ hw) (hts _ kJ_ac_n) (hts _ kJ_ac_s) (hts _ kJ_sys) (src := a0) (dst := a) (cs := arrV (gA G t) (mN M a0) (fun j => Value.int (Int32.ofInt (mI M a0 j)))) (cd := arrV (gA G t) (mN M a) (fun j => Value.int (Int32.ofInt (mI M a j)))) (srcPos := Int32.ofInt sp) (destPos := Int32.ofInt dp) (n := Int32.ofInt n) (by rw [hT]; exact u3) (by rw [hT]; exact g3)
    (fun _ h => by cases h) (fun _ h => by cases h) (fun h => by cases h) (fun h => by cases h) hk0 hk1 hkk0 hkk1 (by simp [hprim]) (by rw [i32_lt0 hsp]; omega) (by rw [i32_lt0 hdp]; omega) (by rw [i32_lt0 hn]; omega)
    (by rw [i32_toInt hsp, i32_toInt hn, arrV_size]; omega)
    (by rw [i32_toInt hdp, i32_toInt hn, arrV_size]; omega)
    (fun vm₁ _ i hi => by
      rw [i32_clamp hn] at hi
      have e : (arrV (gA G t) (mN M a0) (fun j => Value.int (Int32.ofInt (mI M a0 j)))).slots.getD ((Int32.ofInt sp).toNatClampNeg + i) .null = .int (Int32.ofInt (mI M a0 (sp.toNat + i))) := by
        rw [i32_clamp hsp, Array.getD_eq_getD_getElem?, arrV_read _ _ (by omega)]
        rfl
      refine ⟨?_, ?_⟩
      · rw [e]
        exact hfit i (by omega)
      · rw [e]
        exact trivial)
    (g := F0 m pc ls (.int (Int32.ofInt n) :: .int (Int32.ofInt dp) :: .ref a :: .int (Int32.ofInt sp) :: .ref a0 :: st.map mcv)) rfl (by rw [hml]; exact hL.1) (rest := st.map mcv) rfl (by rw [hb]; exact hd) (by omega) (by show 2 * 0 + _ + _ ≤ _; rw [m_cats, show nativeFrameWords "java/lang/System" "arraycopy" 5 = nfw from rfl]; have := nfw_le; omega)
  have e1 := va_copied (fun z => Value.int z) (gA G t) (gA G t) (n0 := mN M a0) (n1 := mN M a) (sp := (Int32.ofInt sp).toNatClampNeg) (dp := (Int32.ofInt dp).toNatClampNeg) (n := (Int32.ofInt n).toNatClampNeg) (fun j => Int32.ofInt (mI M a0 j)) (fun j => Int32.ofInt (mI M a j)) (by rw [i32_clamp hsp, i32_clamp hn]; omega)
  have e1' : copied (arrV (gA G t) (mN M a0) (fun j => Value.int (Int32.ofInt (mI M a0 j)))) (arrV (gA G t) (mN M a) (fun j => Value.int (Int32.ofInt (mI M a j)))) (Int32.ofInt sp) (Int32.ofInt dp) (Int32.ofInt n) = arrV (gA G t) (mN M a) (fun j => fV ty (mCpy M a0 a sp.toNat dp.toNat n.toNat) a j) := by
    refine e1.trans ?_
    congr 1
    funext j
    rw [hfv, i32_clamp hsp, i32_clamp hdp, i32_clamp hn]
    show Value.int (va_cpy _ _ _ _ _ j) = Value.int (Int32.ofInt (if _ then _ else _))
    unfold va_cpy
    by_cases q : dp.toNat ≤ j ∧ j < dp.toNat + n.toNat
    · rw [if_pos q, if_pos ⟨rfl, q⟩]
    · rw [if_neg q, if_neg (fun w => q w.2)]
  rw [e1'] at X' step
  have hheap : ((T.setVm vm').setCell a (arrV (gA G t) (mN M a) (fun j => fV ty (mCpy M a0 a sp.toNat dp.toNat n.toNat) a j))).heap = H.setIfInBounds a (arrV (gA G t) (mN M a) (fun j => fV ty (mCpy M a0 a sp.toNat dp.toNat n.toNat) a j)) := by rw [← hT]; rfl
  have oq : ∀ q : Nat, q ≠ a → (H.setIfInBounds a (arrV (gA G t) (mN M a) (fun j => fV ty (mCpy M a0 a sp.toNat dp.toNat n.toNat) a j)))[q]? = H[q]? := fun q hq => by simp [Array.getElem?_setIfInBounds, Ne.symm hq]
  have hRep : mRep G (mCpy M a0 a sp.toNat dp.toNat n.toNat) (H.setIfInBounds a (arrV (gA G t) (mN M a) (fun j => fV ty (mCpy M a0 a sp.toNat dp.toNat n.toNat) a j))) := by
    obtain ⟨r1, r2, r3, r4, r5, r6, r7⟩ := hR
    have hR : mRep G M H := ⟨r1, r2, r3, r4, r5, r6, r7⟩
    have hlt := arTy_lt hty
    refine ⟨by simp; exact r1, r2, r3, mOk_Cpy r4, fun q hq => by rw [oq q (by omega)]; exact r5 q hq, r6, fun b => ?_⟩
    by_cases hba : b = a
    · subst hba
      refine ⟨fun c' r' t' q1 q2 q3 => ?_, fun t' ty' q1 q2 => ?_, fun q1 => ?_⟩
      · have := vwCl_lt q2
        have q1 : mK M b = c' + 1 := q1
        omega
      · have et : t' = t := by have q1 : mK M b = 30 + t' := q1; omega
        subst et
        have ey : ty' = ty := Option.some.inj (q2.symm.trans hty)
        subst ey
        exact ⟨g1, g2, by simp [Array.getElem?_setIfInBounds, hl]; rfl⟩
      · have q1 : mK M b = 40 := q1
        omega
    · refine hR.keep (oq b hba) rfl rfl (fun ty9 j => ?_)
      unfold fV
      split <;> try rfl
      show mcv (vi (if _ then _ else _)) = _
      rw [if_neg (fun w => hba w.1)]
  obtain ⟨t2, a1, b1⟩ := kk _ _ hRep (fun q hq => by
      rcases List.mem_append.mp hq with h | h
      · exact hlo q h
      · obtain ⟨z, -, hz⟩ := List.mem_map.mp h
        rw [← hz]
        exact g1) _ hheap X'
  exact ⟨t2, step t2 a1, b1⟩
theorem wm_copyi {idx a0 a : Nat} {sp dp n : Int} (hw : Cond.methodLink y.1.cls idx arraycopyName ∈ lw_R) (hs : (st.map mcat).sum ≤ 8) (hK0 : mK M a0 = 30) (hK : mK M a = 30) (hb9 : 0 ≤ sp ∧ 0 ≤ dp ∧ 0 ≤ n ∧ sp + n ≤ mN M a0 ∧ dp + n ≤ mN M a) (hd : decode y.2.1 pc = .ok (.invokestatic idx, 3)) (e9 : M1 = mCpy M a0 a sp.toNat dp.toNat n.toNat) (h : mWm G y (d + 1) (pc + 3) L st M1 Q) : mWm G y (d + 1) pc L (vi n :: vi dp :: vr a :: vi sp :: vr a0 :: st) M Q := wm_copy (t := 0) (ty := .int) rfl (fun _ => rfl) (fun _ _ _ => rfl) rfl hw hs hK0 hK hb9 (fun _ _ => rfl) hd e9 h
theorem wm_copyc {idx a0 a : Nat} {sp dp n : Int} (hw : Cond.methodLink y.1.cls idx arraycopyName ∈ lw_R) (hs : (st.map mcat).sum ≤ 8) (hK0 : mK M a0 = 32) (hK : mK M a = 32) (hb9 : 0 ≤ sp ∧ 0 ≤ dp ∧ 0 ≤ n ∧ sp + n ≤ mN M a0 ∧ dp + n ≤ mN M a) (hfit : ∀ i : Nat, (i : Int) < n → 0 ≤ mI M a0 (sp.toNat + i) ∧ mI M a0 (sp.toNat + i) < 65536) (hd : decode y.2.1 pc = .ok (.invokestatic idx, 3)) (e9 : M1 = mCpy M a0 a sp.toNat dp.toNat n.toNat) (h : mWm G y (d + 1) (pc + 3) L st M1 Q) : mWm G y (d + 1) pc L (vi n :: vi dp :: vr a :: vi sp :: vr a0 :: st) M Q := wm_copy (t := 2) (ty := .char) rfl (fun _ => rfl) (fun _ _ _ => rfl) rfl hw hs hK0 hK hb9 (fun i hi => by
    obtain ⟨h1, h2⟩ := hfit i hi
    have e : Int32.ofInt (mI M a0 (sp.toNat + i)) = nI (mI M a0 (sp.toNat + i)).toNat := by
      rw [← Int32.toInt_inj, i32_toInt ⟨by omega, by omega⟩, nI_toInt (by omega)]
      omega
    rw [e]
    exact (pk_charN (by omega)).2) hd e9 h
end JRules
/-- the keys of a switch rise -/
def lkS (ps : Array (Int × Int)) : Prop := (ps.toList.zip (ps.toList.drop 1)).all (fun (a, next) => a.1 < next.1) = true
end
section
/-! Fields, new objects and calls, by the place in the pool. -/
def y_CA_init : mY := (({ cls := "ChanceArena", name := "<init>", desc := "()V" } : Jvm.MethodName), prog_1_method_1_code, 1, (Option.none : Option Jvm.ClassFile.FieldType))
def y_CA_feed : mY := (({ cls := "ChanceArena", name := "feed", desc := "(IIIII)I" } : Jvm.MethodName), prog_1_method_2_code, 6, (Option.some Jvm.ClassFile.FieldType.int))
def y_CA_growTape : mY := (({ cls := "ChanceArena", name := "growTape", desc := "()[C" } : Jvm.MethodName), prog_1_method_3_code, 2, (Option.some (Jvm.ClassFile.FieldType.array Jvm.ClassFile.FieldType.char)))
def y_CA_putFour : mY := (({ cls := "ChanceArena", name := "putFour", desc := "(I)V" } : Jvm.MethodName), prog_1_method_4_code, 3, (Option.none : Option Jvm.ClassFile.FieldType))
def y_CA_end : mY := (({ cls := "ChanceArena", name := "end", desc := "(I)I" } : Jvm.MethodName), prog_1_method_5_code, 2, (Option.some Jvm.ClassFile.FieldType.int))
def y_CA_compile : mY := (({ cls := "ChanceArena", name := "compile", desc := "()I" } : Jvm.MethodName), prog_1_method_6_code, 3, (Option.some Jvm.ClassFile.FieldType.int))
def y_CA_forget : mY := (({ cls := "ChanceArena", name := "forget", desc := "()V" } : Jvm.MethodName), prog_1_method_7_code, 1, (Option.none : Option Jvm.ClassFile.FieldType))
def y_CA_place : mY := (({ cls := "ChanceArena", name := "place", desc := "()I" } : Jvm.MethodName), prog_1_method_8_code, 1, (Option.some Jvm.ClassFile.FieldType.int))
def y_CA_items : mY := (({ cls := "ChanceArena", name := "items", desc := "(I)I" } : Jvm.MethodName), prog_1_method_9_code, 2, (Option.some Jvm.ClassFile.FieldType.int))
def y_CA_explore : mY := (({ cls := "ChanceArena", name := "explore", desc := "()I" } : Jvm.MethodName), prog_1_method_10_code, 2, (Option.some Jvm.ClassFile.FieldType.int))
def y_CA_state : mY := (({ cls := "ChanceArena", name := "state", desc := "()I" } : Jvm.MethodName), prog_1_method_11_code, 1, (Option.some Jvm.ClassFile.FieldType.int))
def y_CA_states : mY := (({ cls := "ChanceArena", name := "states", desc := "()I" } : Jvm.MethodName), prog_1_method_12_code, 1, (Option.some Jvm.ClassFile.FieldType.int))
def y_CA_variable : mY := (({ cls := "ChanceArena", name := "variable", desc := "(II)I" } : Jvm.MethodName), prog_1_method_13_code, 3, (Option.some Jvm.ClassFile.FieldType.int))
def y_CA_kind : mY := (({ cls := "ChanceArena", name := "kind", desc := "(I)I" } : Jvm.MethodName), prog_1_method_14_code, 2, (Option.some Jvm.ClassFile.FieldType.int))
def y_CA_commands : mY := (({ cls := "ChanceArena", name := "commands", desc := "(I)I" } : Jvm.MethodName), prog_1_method_15_code, 2, (Option.some Jvm.ClassFile.FieldType.int))
def y_CA_command : mY := (({ cls := "ChanceArena", name := "command", desc := "(II)I" } : Jvm.MethodName), prog_1_method_16_code, 4, (Option.some Jvm.ClassFile.FieldType.int))
def y_CA_branches : mY := (({ cls := "ChanceArena", name := "branches", desc := "(II)I" } : Jvm.MethodName), prog_1_method_17_code, 4, (Option.some Jvm.ClassFile.FieldType.int))
def y_CA_branch : mY := (({ cls := "ChanceArena", name := "branch", desc := "(IIII)I" } : Jvm.MethodName), prog_1_method_18_code, 8, (Option.some Jvm.ClassFile.FieldType.int))
def y_CA_solve : mY := (({ cls := "ChanceArena", name := "solve", desc := "()I" } : Jvm.MethodName), prog_1_method_19_code, 2, (Option.some Jvm.ClassFile.FieldType.int))
def y_CA_within : mY := (({ cls := "ChanceArena", name := "within", desc := "(I)I" } : Jvm.MethodName), prog_1_method_20_code, 4, (Option.some Jvm.ClassFile.FieldType.int))
def y_CA_choose : mY := (({ cls := "ChanceArena", name := "choose", desc := "(II)V" } : Jvm.MethodName), prog_1_method_21_code, 3, (Option.none : Option Jvm.ClassFile.FieldType))
def y_CA_adopt : mY := (({ cls := "ChanceArena", name := "adopt", desc := "()V" } : Jvm.MethodName), prog_1_method_22_code, 2, (Option.none : Option Jvm.ClassFile.FieldType))
def y_CA_judge : mY := (({ cls := "ChanceArena", name := "judge", desc := "(I)I" } : Jvm.MethodName), prog_1_method_23_code, 2, (Option.some Jvm.ClassFile.FieldType.int))
def y_CA_print : mY := (({ cls := "ChanceArena", name := "print", desc := "(II)I" } : Jvm.MethodName), prog_1_method_24_code, 4, (Option.some Jvm.ClassFile.FieldType.int))
def y_CA_fractionOf : mY := (({ cls := "ChanceArena", name := "fractionOf", desc := "(II)LChanceArena$Fraction;" } : Jvm.MethodName), prog_1_method_25_code, 4, (Option.some (Jvm.ClassFile.FieldType.object "ChanceArena$Fraction")))
def y_CA_printNumber : mY := (({ cls := "ChanceArena", name := "printNumber", desc := "(LChanceArena$Natural;)V" } : Jvm.MethodName), prog_1_method_26_code, 7, (Option.none : Option Jvm.ClassFile.FieldType))
def y_CA_character : mY := (({ cls := "ChanceArena", name := "character", desc := "(I)I" } : Jvm.MethodName), prog_1_method_27_code, 2, (Option.some Jvm.ClassFile.FieldType.int))
def y_CA_compare : mY := (({ cls := "ChanceArena", name := "compare", desc := "(IIII)I" } : Jvm.MethodName), prog_1_method_28_code, 7, (Option.some Jvm.ClassFile.FieldType.int))
def y_CA_billionths : mY := (({ cls := "ChanceArena", name := "billionths", desc := "(II)I" } : Jvm.MethodName), prog_1_method_29_code, 4, (Option.some Jvm.ClassFile.FieldType.int))
def y_CA_choice : mY := (({ cls := "ChanceArena", name := "choice", desc := "(I)I" } : Jvm.MethodName), prog_1_method_30_code, 2, (Option.some Jvm.ClassFile.FieldType.int))
def y_CA_rank : mY := (({ cls := "ChanceArena", name := "rank", desc := "(I)I" } : Jvm.MethodName), prog_1_method_31_code, 2, (Option.some Jvm.ClassFile.FieldType.int))
def y_CA_next : mY := (({ cls := "ChanceArena", name := "next", desc := "(II)I" } : Jvm.MethodName), prog_1_method_32_code, 4, (Option.some Jvm.ClassFile.FieldType.int))
def y_CA_check : mY := (({ cls := "ChanceArena", name := "check", desc := "()I" } : Jvm.MethodName), prog_1_method_33_code, 1, (Option.some Jvm.ClassFile.FieldType.int))
def y_MM_init : mY := (({ cls := "ChanceArenaModel", name := "<init>", desc := "()V" } : Jvm.MethodName), prog_15_method_1_code, 1, (Option.none : Option Jvm.ClassFile.FieldType))
def y_MM_feed : mY := (({ cls := "ChanceArenaModel", name := "feed", desc := "(IIIII)I" } : Jvm.MethodName), prog_15_method_3_code, 6, (Option.some Jvm.ClassFile.FieldType.int))
def y_MM_add4 : mY := (({ cls := "ChanceArenaModel", name := "add4", desc := "(I)V" } : Jvm.MethodName), prog_15_method_4_code, 3, (Option.none : Option Jvm.ClassFile.FieldType))
def y_MM_end : mY := (({ cls := "ChanceArenaModel", name := "end", desc := "(I)I" } : Jvm.MethodName), prog_15_method_5_code, 2, (Option.some Jvm.ClassFile.FieldType.int))
def y_MM_letter : mY := (({ cls := "ChanceArenaModel", name := "letter", desc := "(I)I" } : Jvm.MethodName), prog_15_method_6_code, 2, (Option.some Jvm.ClassFile.FieldType.int))
def y_MM_isLetter : mY := (({ cls := "ChanceArenaModel", name := "isLetter", desc := "(I)Z" } : Jvm.MethodName), prog_15_method_7_code, 1, (Option.some Jvm.ClassFile.FieldType.boolean))
def y_MM_isDigit : mY := (({ cls := "ChanceArenaModel", name := "isDigit", desc := "(I)Z" } : Jvm.MethodName), prog_15_method_8_code, 1, (Option.some Jvm.ClassFile.FieldType.boolean))
def y_MM_isBlank : mY := (({ cls := "ChanceArenaModel", name := "isBlank", desc := "(I)Z" } : Jvm.MethodName), prog_15_method_9_code, 1, (Option.some Jvm.ClassFile.FieldType.boolean))
def y_MM_skip : mY := (({ cls := "ChanceArenaModel", name := "skip", desc := "(I)I" } : Jvm.MethodName), prog_15_method_10_code, 3, (Option.some Jvm.ClassFile.FieldType.int))
def y_MM_is : mY := (({ cls := "ChanceArenaModel", name := "is", desc := "(IILjava/lang/String;)Z" } : Jvm.MethodName), prog_15_method_11_code, 6, (Option.some Jvm.ClassFile.FieldType.boolean))
def y_MM_wordKind : mY := (({ cls := "ChanceArenaModel", name := "wordKind", desc := "(II)I" } : Jvm.MethodName), prog_15_method_12_code, 3, (Option.some Jvm.ClassFile.FieldType.int))
def y_MM_signKind : mY := (({ cls := "ChanceArenaModel", name := "signKind", desc := "(I)I" } : Jvm.MethodName), prog_15_method_13_code, 3, (Option.some Jvm.ClassFile.FieldType.int))
def y_MM_word0 : mY := (({ cls := "ChanceArenaModel", name := "word", desc := "(III)V" } : Jvm.MethodName), prog_15_method_14_code, 4, (Option.none : Option Jvm.ClassFile.FieldType))
def y_MM_cut : mY := (({ cls := "ChanceArenaModel", name := "cut", desc := "()V" } : Jvm.MethodName), prog_15_method_15_code, 6, (Option.none : Option Jvm.ClassFile.FieldType))
def y_MM_want : mY := (({ cls := "ChanceArenaModel", name := "want", desc := "(III)V" } : Jvm.MethodName), prog_15_method_16_code, 4, (Option.none : Option Jvm.ClassFile.FieldType))
def y_MM_level : mY := (({ cls := "ChanceArenaModel", name := "level", desc := "()Z" } : Jvm.MethodName), prog_15_method_17_code, 1, (Option.some Jvm.ClassFile.FieldType.boolean))
def y_MM_isComparison : mY := (({ cls := "ChanceArenaModel", name := "isComparison", desc := "(I)Z" } : Jvm.MethodName), prog_15_method_18_code, 1, (Option.some Jvm.ClassFile.FieldType.boolean))
def y_MM_readText : mY := (({ cls := "ChanceArenaModel", name := "readText", desc := "()Z" } : Jvm.MethodName), prog_15_method_19_code, 5, (Option.some Jvm.ClassFile.FieldType.boolean))
def y_MM_item : mY := (({ cls := "ChanceArenaModel", name := "item", desc := "(II)I" } : Jvm.MethodName), prog_15_method_20_code, 3, (Option.some Jvm.ClassFile.FieldType.int))
def y_MM_set0 : mY := (({ cls := "ChanceArenaModel", name := "set", desc := "(I)I" } : Jvm.MethodName), prog_15_method_21_code, 2, (Option.some Jvm.ClassFile.FieldType.int))
def y_MM_anItem : mY := (({ cls := "ChanceArenaModel", name := "anItem", desc := "(I)I" } : Jvm.MethodName), prog_15_method_22_code, 2, (Option.some Jvm.ClassFile.FieldType.int))
def y_MM_rule0 : mY := (({ cls := "ChanceArenaModel", name := "rule", desc := "(II)I" } : Jvm.MethodName), prog_15_method_23_code, 3, (Option.some Jvm.ClassFile.FieldType.int))
def y_MM_ask : mY := (({ cls := "ChanceArenaModel", name := "ask", desc := "()I" } : Jvm.MethodName), prog_15_method_24_code, 1, (Option.some Jvm.ClassFile.FieldType.int))
def y_MM_again : mY := (({ cls := "ChanceArenaModel", name := "again", desc := "(ZII)I" } : Jvm.MethodName), prog_15_method_25_code, 4, (Option.some Jvm.ClassFile.FieldType.int))
def y_MM_sign : mY := (({ cls := "ChanceArenaModel", name := "sign", desc := "(I)I" } : Jvm.MethodName), prog_15_method_26_code, 2, (Option.some Jvm.ClassFile.FieldType.int))
def y_MM_stop : mY := (({ cls := "ChanceArenaModel", name := "stop", desc := "(II)V" } : Jvm.MethodName), prog_15_method_27_code, 3, (Option.none : Option Jvm.ClassFile.FieldType))
def y_MM_word1 : mY := (({ cls := "ChanceArenaModel", name := "word", desc := "(I)I" } : Jvm.MethodName), prog_15_method_28_code, 2, (Option.some Jvm.ClassFile.FieldType.int))
def y_MM_place0 : mY := (({ cls := "ChanceArenaModel", name := "place", desc := "(I)I" } : Jvm.MethodName), prog_15_method_29_code, 2, (Option.some Jvm.ClassFile.FieldType.int))
def y_MM_node : mY := (({ cls := "ChanceArenaModel", name := "node", desc := "(III)I" } : Jvm.MethodName), prog_15_method_30_code, 4, (Option.some Jvm.ClassFile.FieldType.int))
def y_MM_join : mY := (({ cls := "ChanceArenaModel", name := "join", desc := "(II)V" } : Jvm.MethodName), prog_15_method_31_code, 4, (Option.none : Option Jvm.ClassFile.FieldType))
def y_MM_job : mY := (({ cls := "ChanceArenaModel", name := "job", desc := "(III)V" } : Jvm.MethodName), prog_15_method_32_code, 4, (Option.none : Option Jvm.ClassFile.FieldType))
def y_MM_tree : mY := (({ cls := "ChanceArenaModel", name := "tree", desc := "(II)I" } : Jvm.MethodName), prog_15_method_33_code, 6, (Option.some Jvm.ClassFile.FieldType.int))
def y_MM_isOperand : mY := (({ cls := "ChanceArenaModel", name := "isOperand", desc := "(I)Z" } : Jvm.MethodName), prog_15_method_34_code, 2, (Option.some Jvm.ClassFile.FieldType.boolean))
def y_MM_looseness : mY := (({ cls := "ChanceArenaModel", name := "looseness", desc := "(II)I" } : Jvm.MethodName), prog_15_method_35_code, 4, (Option.some Jvm.ClassFile.FieldType.int))
def y_MM_loosest : mY := (({ cls := "ChanceArenaModel", name := "loosest", desc := "(II)I" } : Jvm.MethodName), prog_15_method_36_code, 8, (Option.some Jvm.ClassFile.FieldType.int))
def y_MM_colonOf : mY := (({ cls := "ChanceArenaModel", name := "colonOf", desc := "(II)I" } : Jvm.MethodName), prog_15_method_37_code, 8, (Option.some Jvm.ClassFile.FieldType.int))
def y_MM_part : mY := (({ cls := "ChanceArenaModel", name := "part", desc := "(III)V" } : Jvm.MethodName), prog_15_method_38_code, 7, (Option.none : Option Jvm.ClassFile.FieldType))
def y_MM_list : mY := (({ cls := "ChanceArenaModel", name := "list", desc := "(III)V" } : Jvm.MethodName), prog_15_method_39_code, 8, (Option.none : Option Jvm.ClassFile.FieldType))
def y_MM_numberOf : mY := (({ cls := "ChanceArenaModel", name := "numberOf", desc := "(I)I" } : Jvm.MethodName), prog_15_method_40_code, 4, (Option.some Jvm.ClassFile.FieldType.int))
def y_MM_sameWord : mY := (({ cls := "ChanceArenaModel", name := "sameWord", desc := "(II)Z" } : Jvm.MethodName), prog_15_method_41_code, 6, (Option.some Jvm.ClassFile.FieldType.boolean))
def y_MM_find : mY := (({ cls := "ChanceArenaModel", name := "find", desc := "(I)I" } : Jvm.MethodName), prog_15_method_42_code, 4, (Option.some Jvm.ClassFile.FieldType.int))
def y_MM_know : mY := (({ cls := "ChanceArenaModel", name := "know", desc := "(III)V" } : Jvm.MethodName), prog_15_method_43_code, 4, (Option.none : Option Jvm.ClassFile.FieldType))
def y_MM_look : mY := (({ cls := "ChanceArenaModel", name := "look", desc := "(IZ)Z" } : Jvm.MethodName), prog_15_method_44_code, 7, (Option.some Jvm.ClassFile.FieldType.boolean))
def y_MM_turn : mY := (({ cls := "ChanceArenaModel", name := "turn", desc := "(I)V" } : Jvm.MethodName), prog_15_method_45_code, 5, (Option.none : Option Jvm.ClassFile.FieldType))
def y_MM_parts : mY := (({ cls := "ChanceArenaModel", name := "parts", desc := "(I)I" } : Jvm.MethodName), prog_15_method_46_code, 4, (Option.some Jvm.ClassFile.FieldType.int))
def y_MM_lookAt : mY := (({ cls := "ChanceArenaModel", name := "lookAt", desc := "(IZ)V" } : Jvm.MethodName), prog_15_method_47_code, 10, (Option.none : Option Jvm.ClassFile.FieldType))
def y_MM_lookUp : mY := (({ cls := "ChanceArenaModel", name := "lookUp", desc := "(IZ)I" } : Jvm.MethodName), prog_15_method_48_code, 6, (Option.some Jvm.ClassFile.FieldType.int))
def y_MM_rule1 : mY := (({ cls := "ChanceArenaModel", name := "rule", desc := "(IIZZ)I" } : Jvm.MethodName), prog_15_method_49_code, 7, (Option.some Jvm.ClassFile.FieldType.int))
def y_MM_push : mY := (({ cls := "ChanceArenaModel", name := "push", desc := "(JJ)V" } : Jvm.MethodName), prog_15_method_50_code, 5, (Option.none : Option Jvm.ClassFile.FieldType))
def y_MM_pushTruth : mY := (({ cls := "ChanceArenaModel", name := "pushTruth", desc := "(Z)V" } : Jvm.MethodName), prog_15_method_51_code, 2, (Option.none : Option Jvm.ClassFile.FieldType))
def y_MM_divisor : mY := (({ cls := "ChanceArenaModel", name := "divisor", desc := "(JJ)J" } : Jvm.MethodName), prog_15_method_52_code, 10, (Option.some Jvm.ClassFile.FieldType.long))
def y_MM_pushFraction : mY := (({ cls := "ChanceArenaModel", name := "pushFraction", desc := "(JJI)V" } : Jvm.MethodName), prog_15_method_53_code, 12, (Option.none : Option Jvm.ClassFile.FieldType))
def y_MM_todo : mY := (({ cls := "ChanceArenaModel", name := "todo", desc := "(II)V" } : Jvm.MethodName), prog_15_method_54_code, 3, (Option.none : Option Jvm.ClassFile.FieldType))
def y_MM_workOut : mY := (({ cls := "ChanceArenaModel", name := "workOut", desc := "(LChanceArenaModel$Game;I)V" } : Jvm.MethodName), prog_15_method_55_code, 5, (Option.none : Option Jvm.ClassFile.FieldType))
def y_MM_begin : mY := (({ cls := "ChanceArenaModel", name := "begin", desc := "(LChanceArenaModel$Game;I)V" } : Jvm.MethodName), prog_15_method_56_code, 7, (Option.none : Option Jvm.ClassFile.FieldType))
def y_MM_turnTodo : mY := (({ cls := "ChanceArenaModel", name := "turnTodo", desc := "(I)V" } : Jvm.MethodName), prog_15_method_57_code, 5, (Option.none : Option Jvm.ClassFile.FieldType))
def y_MM_name : mY := (({ cls := "ChanceArenaModel", name := "name", desc := "(LChanceArenaModel$Game;I)V" } : Jvm.MethodName), prog_15_method_58_code, 4, (Option.none : Option Jvm.ClassFile.FieldType))
def y_MM_choose0 : mY := (({ cls := "ChanceArenaModel", name := "choose", desc := "(LChanceArenaModel$Game;I)V" } : Jvm.MethodName), prog_15_method_59_code, 6, (Option.none : Option Jvm.ClassFile.FieldType))
def y_MM_finish : mY := (({ cls := "ChanceArenaModel", name := "finish", desc := "(LChanceArenaModel$Game;I)V" } : Jvm.MethodName), prog_15_method_60_code, 9, (Option.none : Option Jvm.ClassFile.FieldType))
def y_MM_best : mY := (({ cls := "ChanceArenaModel", name := "best", desc := "(ZII)V" } : Jvm.MethodName), prog_15_method_61_code, 8, (Option.none : Option Jvm.ClassFile.FieldType))
def y_MM_reckon : mY := (({ cls := "ChanceArenaModel", name := "reckon", desc := "(IJJJJI)V" } : Jvm.MethodName), prog_15_method_62_code, 11, (Option.none : Option Jvm.ClassFile.FieldType))
def y_MM_until : mY := (({ cls := "ChanceArenaModel", name := "until", desc := "(II)I" } : Jvm.MethodName), prog_15_method_63_code, 7, (Option.some Jvm.ClassFile.FieldType.int))
def y_MM_closeOf : mY := (({ cls := "ChanceArenaModel", name := "closeOf", desc := "(I)I" } : Jvm.MethodName), prog_15_method_64_code, 4, (Option.some Jvm.ClassFile.FieldType.int))
def y_MM_items0 : mY := (({ cls := "ChanceArenaModel", name := "items", desc := "()V" } : Jvm.MethodName), prog_15_method_65_code, 3, (Option.none : Option Jvm.ClassFile.FieldType))
def y_MM_ruleItem : mY := (({ cls := "ChanceArenaModel", name := "ruleItem", desc := "(II)V" } : Jvm.MethodName), prog_15_method_66_code, 7, (Option.none : Option Jvm.ClassFile.FieldType))
def y_MM_varItem : mY := (({ cls := "ChanceArenaModel", name := "varItem", desc := "(II)V" } : Jvm.MethodName), prog_15_method_67_code, 12, (Option.none : Option Jvm.ClassFile.FieldType))
def y_MM_initOf : mY := (({ cls := "ChanceArenaModel", name := "initOf", desc := "(II)I" } : Jvm.MethodName), prog_15_method_68_code, 4, (Option.some Jvm.ClassFile.FieldType.int))
def y_MM_wholeOf : mY := (({ cls := "ChanceArenaModel", name := "wholeOf", desc := "(II)I" } : Jvm.MethodName), prog_15_method_69_code, 3, (Option.some Jvm.ClassFile.FieldType.int))
def y_MM_begins : mY := (({ cls := "ChanceArenaModel", name := "begins", desc := "(III)V" } : Jvm.MethodName), prog_15_method_70_code, 5, (Option.none : Option Jvm.ClassFile.FieldType))
def y_MM_commandItem : mY := (({ cls := "ChanceArenaModel", name := "commandItem", desc := "(II)V" } : Jvm.MethodName), prog_15_method_71_code, 6, (Option.none : Option Jvm.ClassFile.FieldType))
def y_MM_branch0 : mY := (({ cls := "ChanceArenaModel", name := "branch", desc := "(III)I" } : Jvm.MethodName), prog_15_method_72_code, 9, (Option.some Jvm.ClassFile.FieldType.int))
def y_MM_setItem : mY := (({ cls := "ChanceArenaModel", name := "setItem", desc := "(II)I" } : Jvm.MethodName), prog_15_method_73_code, 7, (Option.some Jvm.ClassFile.FieldType.int))
def y_MM_compile : mY := (({ cls := "ChanceArenaModel", name := "compile", desc := "()I" } : Jvm.MethodName), prog_15_method_74_code, 3, (Option.some Jvm.ClassFile.FieldType.int))
def y_MM_place1 : mY := (({ cls := "ChanceArenaModel", name := "place", desc := "()I" } : Jvm.MethodName), prog_15_method_75_code, 1, (Option.some Jvm.ClassFile.FieldType.int))
def y_MM_items1 : mY := (({ cls := "ChanceArenaModel", name := "items", desc := "(I)I" } : Jvm.MethodName), prog_15_method_76_code, 2, (Option.some Jvm.ClassFile.FieldType.int))
def y_MM_reach : mY := (({ cls := "ChanceArenaModel", name := "reach", desc := "(I)V" } : Jvm.MethodName), prog_15_method_77_code, 2, (Option.none : Option Jvm.ClassFile.FieldType))
def y_MM_enter : mY := (({ cls := "ChanceArenaModel", name := "enter", desc := "(I)V" } : Jvm.MethodName), prog_15_method_78_code, 3, (Option.none : Option Jvm.ClassFile.FieldType))
def y_MM_explore : mY := (({ cls := "ChanceArenaModel", name := "explore", desc := "()I" } : Jvm.MethodName), prog_15_method_79_code, 3, (Option.some Jvm.ClassFile.FieldType.int))
def y_MM_state0 : mY := (({ cls := "ChanceArenaModel", name := "state", desc := "(I)V" } : Jvm.MethodName), prog_15_method_80_code, 3, (Option.none : Option Jvm.ClassFile.FieldType))
def y_MM_enabled : mY := (({ cls := "ChanceArenaModel", name := "enabled", desc := "(II)V" } : Jvm.MethodName), prog_15_method_81_code, 10, (Option.none : Option Jvm.ClassFile.FieldType))
def y_MM_chances : mY := (({ cls := "ChanceArenaModel", name := "chances", desc := "(II)J" } : Jvm.MethodName), prog_15_method_82_code, 6, (Option.some Jvm.ClassFile.FieldType.long))
def y_MM_way : mY := (({ cls := "ChanceArenaModel", name := "way", desc := "(III)V" } : Jvm.MethodName), prog_15_method_83_code, 9, (Option.none : Option Jvm.ClassFile.FieldType))
def y_MM_add : mY := (({ cls := "ChanceArenaModel", name := "add", desc := "(IJJ)V" } : Jvm.MethodName), prog_15_method_84_code, 12, (Option.none : Option Jvm.ClassFile.FieldType))
def y_MM_set1 : mY := (({ cls := "ChanceArenaModel", name := "set", desc := "(III)V" } : Jvm.MethodName), prog_15_method_85_code, 4, (Option.none : Option Jvm.ClassFile.FieldType))
def y_MM_stateOf : mY := (({ cls := "ChanceArenaModel", name := "stateOf", desc := "()I" } : Jvm.MethodName), prog_15_method_86_code, 4, (Option.some Jvm.ClassFile.FieldType.int))
def y_MM_state1 : mY := (({ cls := "ChanceArenaModel", name := "state", desc := "()I" } : Jvm.MethodName), prog_15_method_87_code, 1, (Option.some Jvm.ClassFile.FieldType.int))
def y_MM_states : mY := (({ cls := "ChanceArenaModel", name := "states", desc := "()I" } : Jvm.MethodName), prog_15_method_88_code, 1, (Option.some Jvm.ClassFile.FieldType.int))
def y_MM_variable : mY := (({ cls := "ChanceArenaModel", name := "variable", desc := "(II)I" } : Jvm.MethodName), prog_15_method_89_code, 3, (Option.some Jvm.ClassFile.FieldType.int))
def y_MM_isState : mY := (({ cls := "ChanceArenaModel", name := "isState", desc := "(I)Z" } : Jvm.MethodName), prog_15_method_90_code, 2, (Option.some Jvm.ClassFile.FieldType.boolean))
def y_MM_kind : mY := (({ cls := "ChanceArenaModel", name := "kind", desc := "(I)I" } : Jvm.MethodName), prog_15_method_91_code, 2, (Option.some Jvm.ClassFile.FieldType.int))
def y_MM_commands : mY := (({ cls := "ChanceArenaModel", name := "commands", desc := "(I)I" } : Jvm.MethodName), prog_15_method_92_code, 2, (Option.some Jvm.ClassFile.FieldType.int))
def y_MM_isCommand : mY := (({ cls := "ChanceArenaModel", name := "isCommand", desc := "(II)Z" } : Jvm.MethodName), prog_15_method_93_code, 3, (Option.some Jvm.ClassFile.FieldType.boolean))
def y_MM_command : mY := (({ cls := "ChanceArenaModel", name := "command", desc := "(II)I" } : Jvm.MethodName), prog_15_method_94_code, 3, (Option.some Jvm.ClassFile.FieldType.int))
def y_MM_branches : mY := (({ cls := "ChanceArenaModel", name := "branches", desc := "(II)I" } : Jvm.MethodName), prog_15_method_95_code, 3, (Option.some Jvm.ClassFile.FieldType.int))
def y_MM_branch1 : mY := (({ cls := "ChanceArenaModel", name := "branch", desc := "(IIII)I" } : Jvm.MethodName), prog_15_method_96_code, 6, (Option.some Jvm.ClassFile.FieldType.int))
def y_MM_tellState : mY := (({ cls := "ChanceArenaModel", name := "tellState", desc := "(I)V" } : Jvm.MethodName), prog_15_method_97_code, 4, (Option.none : Option Jvm.ClassFile.FieldType))
def y_MM_solve : mY := (({ cls := "ChanceArenaModel", name := "solve", desc := "()I" } : Jvm.MethodName), prog_15_method_98_code, 1, (Option.some Jvm.ClassFile.FieldType.int))
def y_MM_within : mY := (({ cls := "ChanceArenaModel", name := "within", desc := "(I)I" } : Jvm.MethodName), prog_15_method_99_code, 2, (Option.some Jvm.ClassFile.FieldType.int))
def y_MM_choose1 : mY := (({ cls := "ChanceArenaModel", name := "choose", desc := "(II)V" } : Jvm.MethodName), prog_15_method_100_code, 3, (Option.none : Option Jvm.ClassFile.FieldType))
def y_MM_adopt : mY := (({ cls := "ChanceArenaModel", name := "adopt", desc := "()V" } : Jvm.MethodName), prog_15_method_101_code, 1, (Option.none : Option Jvm.ClassFile.FieldType))
def y_MM_judge : mY := (({ cls := "ChanceArenaModel", name := "judge", desc := "(I)I" } : Jvm.MethodName), prog_15_method_102_code, 2, (Option.some Jvm.ClassFile.FieldType.int))
def y_MM_print : mY := (({ cls := "ChanceArenaModel", name := "print", desc := "(II)I" } : Jvm.MethodName), prog_15_method_103_code, 3, (Option.some Jvm.ClassFile.FieldType.int))
def y_MM_character : mY := (({ cls := "ChanceArenaModel", name := "character", desc := "(I)I" } : Jvm.MethodName), prog_15_method_104_code, 2, (Option.some Jvm.ClassFile.FieldType.int))
def y_MM_compare : mY := (({ cls := "ChanceArenaModel", name := "compare", desc := "(IIII)I" } : Jvm.MethodName), prog_15_method_105_code, 5, (Option.some Jvm.ClassFile.FieldType.int))
def y_MM_billionths : mY := (({ cls := "ChanceArenaModel", name := "billionths", desc := "(II)I" } : Jvm.MethodName), prog_15_method_106_code, 3, (Option.some Jvm.ClassFile.FieldType.int))
def y_MM_choice : mY := (({ cls := "ChanceArenaModel", name := "choice", desc := "(I)I" } : Jvm.MethodName), prog_15_method_107_code, 2, (Option.some Jvm.ClassFile.FieldType.int))
def y_MM_rank : mY := (({ cls := "ChanceArenaModel", name := "rank", desc := "(I)I" } : Jvm.MethodName), prog_15_method_108_code, 2, (Option.some Jvm.ClassFile.FieldType.int))
def y_MM_next : mY := (({ cls := "ChanceArenaModel", name := "next", desc := "(II)I" } : Jvm.MethodName), prog_15_method_109_code, 3, (Option.some Jvm.ClassFile.FieldType.int))
def y_MM_check : mY := (({ cls := "ChanceArenaModel", name := "check", desc := "()I" } : Jvm.MethodName), prog_15_method_110_code, 1, (Option.some Jvm.ClassFile.FieldType.int))
def y_Fr_init : mY := (({ cls := "ChanceArena$Fraction", name := "<init>", desc := "()V" } : Jvm.MethodName), prog_2_method_1_code, 1, (Option.none : Option Jvm.ClassFile.FieldType))
def y_Fr_put0 : mY := (({ cls := "ChanceArena$Fraction", name := "put", desc := "(I)V" } : Jvm.MethodName), prog_2_method_2_code, 2, (Option.none : Option Jvm.ClassFile.FieldType))
def y_Fr_put1 : mY := (({ cls := "ChanceArena$Fraction", name := "put", desc := "(LChanceArena$Fraction;)V" } : Jvm.MethodName), prog_2_method_3_code, 2, (Option.none : Option Jvm.ClassFile.FieldType))
def y_Fs_init : mY := (({ cls := "ChanceArena$Fractions", name := "<init>", desc := "()V" } : Jvm.MethodName), prog_3_method_1_code, 1, (Option.none : Option Jvm.ClassFile.FieldType))
def y_Fs_reserve : mY := (({ cls := "ChanceArena$Fractions", name := "reserve", desc := "(I)V" } : Jvm.MethodName), prog_3_method_2_code, 4, (Option.none : Option Jvm.ClassFile.FieldType))
def y_Fs_begin : mY := (({ cls := "ChanceArena$Fractions", name := "begin", desc := "(LChanceArena$Game;)V" } : Jvm.MethodName), prog_3_method_3_code, 3, (Option.none : Option Jvm.ClassFile.FieldType))
def y_Ga_init : mY := (({ cls := "ChanceArena$Game", name := "<init>", desc := "()V" } : Jvm.MethodName), prog_4_method_1_code, 1, (Option.none : Option Jvm.ClassFile.FieldType))
def y_Ga_clear : mY := (({ cls := "ChanceArena$Game", name := "clear", desc := "()V" } : Jvm.MethodName), prog_4_method_2_code, 1, (Option.none : Option Jvm.ClassFile.FieldType))
def y_Ga_hasState : mY := (({ cls := "ChanceArena$Game", name := "hasState", desc := "(I)Z" } : Jvm.MethodName), prog_4_method_3_code, 2, (Option.some Jvm.ClassFile.FieldType.boolean))
def y_Ga_commandAt : mY := (({ cls := "ChanceArena$Game", name := "commandAt", desc := "(II)I" } : Jvm.MethodName), prog_4_method_4_code, 3, (Option.some Jvm.ClassFile.FieldType.int))
def y_Ga_drawn : mY := (({ cls := "ChanceArena$Game", name := "drawn", desc := "(II)I" } : Jvm.MethodName), prog_4_method_5_code, 8, (Option.some Jvm.ClassFile.FieldType.int))
def y_Ga_discover : mY := (({ cls := "ChanceArena$Game", name := "discover", desc := "(LChanceArena$Program;)I" } : Jvm.MethodName), prog_4_method_6_code, 5, (Option.some Jvm.ClassFile.FieldType.int))
def y_Ga_lookAt : mY := (({ cls := "ChanceArena$Game", name := "lookAt", desc := "(I)I" } : Jvm.MethodName), prog_4_method_7_code, 2, (Option.some Jvm.ClassFile.FieldType.int))
def y_Ga_machineFault : mY := (({ cls := "ChanceArena$Game", name := "machineFault", desc := "()I" } : Jvm.MethodName), prog_4_method_8_code, 1, (Option.some Jvm.ClassFile.FieldType.int))
def y_Ga_fault : mY := (({ cls := "ChanceArena$Game", name := "fault", desc := "(II)I" } : Jvm.MethodName), prog_4_method_9_code, 3, (Option.some Jvm.ClassFile.FieldType.int))
def y_Ga_tryCommand : mY := (({ cls := "ChanceArena$Game", name := "tryCommand", desc := "(II)I" } : Jvm.MethodName), prog_4_method_10_code, 7, (Option.some Jvm.ClassFile.FieldType.int))
def y_Ga_weighChances : mY := (({ cls := "ChanceArena$Game", name := "weighChances", desc := "(I)I" } : Jvm.MethodName), prog_4_method_11_code, 9, (Option.some Jvm.ClassFile.FieldType.int))
def y_Ga_follow : mY := (({ cls := "ChanceArena$Game", name := "follow", desc := "(III)I" } : Jvm.MethodName), prog_4_method_12_code, 6, (Option.some Jvm.ClassFile.FieldType.int))
def y_Ga_enter : mY := (({ cls := "ChanceArena$Game", name := "enter", desc := "()I" } : Jvm.MethodName), prog_4_method_13_code, 4, (Option.some Jvm.ClassFile.FieldType.int))
def y_Ga_isNext : mY := (({ cls := "ChanceArena$Game", name := "isNext", desc := "(I)Z" } : Jvm.MethodName), prog_4_method_14_code, 3, (Option.some Jvm.ClassFile.FieldType.boolean))
def y_Ma_init : mY := (({ cls := "ChanceArena$Machine", name := "<init>", desc := "()V" } : Jvm.MethodName), prog_5_method_1_code, 1, (Option.none : Option Jvm.ClassFile.FieldType))
def y_Ma_commonDivisor : mY := (({ cls := "ChanceArena$Machine", name := "commonDivisor", desc := "(JJ)J" } : Jvm.MethodName), prog_5_method_2_code, 11, (Option.some Jvm.ClassFile.FieldType.long))
def y_Ma_enter : mY := (({ cls := "ChanceArena$Machine", name := "enter", desc := "([II)V" } : Jvm.MethodName), prog_5_method_3_code, 3, (Option.none : Option Jvm.ClassFile.FieldType))
def y_Ma_beginSets : mY := (({ cls := "ChanceArena$Machine", name := "beginSets", desc := "()V" } : Jvm.MethodName), prog_5_method_4_code, 1, (Option.none : Option Jvm.ClassFile.FieldType))
def y_Ma_run : mY := (({ cls := "ChanceArena$Machine", name := "run", desc := "(I)Z" } : Jvm.MethodName), prog_5_method_5_code, 7, (Option.some Jvm.ClassFile.FieldType.boolean))
def y_Ma_stop : mY := (({ cls := "ChanceArena$Machine", name := "stop", desc := "(II)Z" } : Jvm.MethodName), prog_5_method_6_code, 3, (Option.some Jvm.ClassFile.FieldType.boolean))
def y_Ma_push : mY := (({ cls := "ChanceArena$Machine", name := "push", desc := "(II)V" } : Jvm.MethodName), prog_5_method_7_code, 3, (Option.none : Option Jvm.ClassFile.FieldType))
def y_Ma_meet : mY := (({ cls := "ChanceArena$Machine", name := "meet", desc := "(II)I" } : Jvm.MethodName), prog_5_method_8_code, 3, (Option.some Jvm.ClassFile.FieldType.int))
def y_Ma_comeBack : mY := (({ cls := "ChanceArena$Machine", name := "comeBack", desc := "()I" } : Jvm.MethodName), prog_5_method_9_code, 2, (Option.some Jvm.ClassFile.FieldType.int))
def y_Ma_compute : mY := (({ cls := "ChanceArena$Machine", name := "compute", desc := "(II)Z" } : Jvm.MethodName), prog_5_method_10_code, 11, (Option.some Jvm.ClassFile.FieldType.boolean))
def y_Ma_store : mY := (({ cls := "ChanceArena$Machine", name := "store", desc := "(II)Z" } : Jvm.MethodName), prog_5_method_11_code, 3, (Option.some Jvm.ClassFile.FieldType.boolean))
def y_Ma_settle : mY := (({ cls := "ChanceArena$Machine", name := "settle", desc := "(JJI)Z" } : Jvm.MethodName), prog_5_method_12_code, 12, (Option.some Jvm.ClassFile.FieldType.boolean))
def y_Ma_relate : mY := (({ cls := "ChanceArena$Machine", name := "relate", desc := "(II)Z" } : Jvm.MethodName), prog_5_method_13_code, 4, (Option.some Jvm.ClassFile.FieldType.boolean))
def y_Na_init : mY := (({ cls := "ChanceArena$Natural", name := "<init>", desc := "()V" } : Jvm.MethodName), prog_6_method_1_code, 1, (Option.none : Option Jvm.ClassFile.FieldType))
def y_Na_reserve : mY := (({ cls := "ChanceArena$Natural", name := "reserve", desc := "(I)V" } : Jvm.MethodName), prog_6_method_2_code, 2, (Option.none : Option Jvm.ClassFile.FieldType))
def y_Na_trim : mY := (({ cls := "ChanceArena$Natural", name := "trim", desc := "(I)V" } : Jvm.MethodName), prog_6_method_3_code, 2, (Option.none : Option Jvm.ClassFile.FieldType))
def y_Na_put0 : mY := (({ cls := "ChanceArena$Natural", name := "put", desc := "(I)V" } : Jvm.MethodName), prog_6_method_4_code, 2, (Option.none : Option Jvm.ClassFile.FieldType))
def y_Na_putLong : mY := (({ cls := "ChanceArena$Natural", name := "putLong", desc := "(J)V" } : Jvm.MethodName), prog_6_method_5_code, 3, (Option.none : Option Jvm.ClassFile.FieldType))
def y_Na_put1 : mY := (({ cls := "ChanceArena$Natural", name := "put", desc := "(LChanceArena$Natural;)V" } : Jvm.MethodName), prog_6_method_6_code, 2, (Option.none : Option Jvm.ClassFile.FieldType))
def y_Na_isOne : mY := (({ cls := "ChanceArena$Natural", name := "isOne", desc := "()Z" } : Jvm.MethodName), prog_6_method_7_code, 1, (Option.some Jvm.ClassFile.FieldType.boolean))
def y_Na_bits : mY := (({ cls := "ChanceArena$Natural", name := "bits", desc := "()I" } : Jvm.MethodName), prog_6_method_8_code, 1, (Option.some Jvm.ClassFile.FieldType.int))
def y_Na_order : mY := (({ cls := "ChanceArena$Natural", name := "order", desc := "(LChanceArena$Natural;LChanceArena$Natural;)I" } : Jvm.MethodName), prog_6_method_9_code, 3, (Option.some Jvm.ClassFile.FieldType.int))
def y_Na_add : mY := (({ cls := "ChanceArena$Natural", name := "add", desc := "(LChanceArena$Natural;I)V" } : Jvm.MethodName), prog_6_method_10_code, 7, (Option.none : Option Jvm.ClassFile.FieldType))
def y_Na_multiply : mY := (({ cls := "ChanceArena$Natural", name := "multiply", desc := "(I)V" } : Jvm.MethodName), prog_6_method_11_code, 5, (Option.none : Option Jvm.ClassFile.FieldType))
def y_Na_putProduct : mY := (({ cls := "ChanceArena$Natural", name := "putProduct", desc := "(LChanceArena$Natural;LChanceArena$Natural;)V" } : Jvm.MethodName), prog_6_method_12_code, 9, (Option.none : Option Jvm.ClassFile.FieldType))
def y_Na_divideSmall : mY := (({ cls := "ChanceArena$Natural", name := "divideSmall", desc := "(I)I" } : Jvm.MethodName), prog_6_method_13_code, 5, (Option.some Jvm.ClassFile.FieldType.int))
def y_Na_modulo : mY := (({ cls := "ChanceArena$Natural", name := "modulo", desc := "(I)I" } : Jvm.MethodName), prog_6_method_14_code, 5, (Option.some Jvm.ClassFile.FieldType.int))
def y_Na_bitsFrom : mY := (({ cls := "ChanceArena$Natural", name := "bitsFrom", desc := "(I)J" } : Jvm.MethodName), prog_6_method_15_code, 6, (Option.some Jvm.ClassFile.FieldType.long))
def y_Na_divide : mY := (({ cls := "ChanceArena$Natural", name := "divide", desc := "(LChanceArena$Natural;LChanceArena$Natural;LChanceArena$Natural;)V" } : Jvm.MethodName), prog_6_method_16_code, 7, (Option.none : Option Jvm.ClassFile.FieldType))
def y_Na_takeMultiple : mY := (({ cls := "ChanceArena$Natural", name := "takeMultiple", desc := "(LChanceArena$Natural;I)I" } : Jvm.MethodName), prog_6_method_17_code, 15, (Option.some Jvm.ClassFile.FieldType.int))
def y_Na_combine : mY := (({ cls := "ChanceArena$Natural", name := "combine", desc := "(LChanceArena$Natural;LChanceArena$Natural;[J)V" } : Jvm.MethodName), prog_6_method_18_code, 13, (Option.none : Option Jvm.ClassFile.FieldType))
def y_Pr_init : mY := (({ cls := "ChanceArena$Program", name := "<init>", desc := "()V" } : Jvm.MethodName), prog_7_method_1_code, 1, (Option.none : Option Jvm.ClassFile.FieldType))
def y_Pr_clear : mY := (({ cls := "ChanceArena$Program", name := "clear", desc := "(I)V" } : Jvm.MethodName), prog_7_method_2_code, 4, (Option.none : Option Jvm.ClassFile.FieldType))
def y_Pr_add : mY := (({ cls := "ChanceArena$Program", name := "add", desc := "(II)I" } : Jvm.MethodName), prog_7_method_3_code, 3, (Option.some Jvm.ClassFile.FieldType.int))
def y_Re_init : mY := (({ cls := "ChanceArena$Residues", name := "<init>", desc := "()V" } : Jvm.MethodName), prog_8_method_1_code, 2, (Option.none : Option Jvm.ClassFile.FieldType))
def y_Re_settle : mY := (({ cls := "ChanceArena$Residues", name := "settle", desc := "(II)V" } : Jvm.MethodName), prog_8_method_2_code, 4, (Option.none : Option Jvm.ClassFile.FieldType))
def y_Re_eliminate : mY := (({ cls := "ChanceArena$Residues", name := "eliminate", desc := "(II)Z" } : Jvm.MethodName), prog_8_method_3_code, 7, (Option.some Jvm.ClassFile.FieldType.boolean))
def y_Re_swapRows : mY := (({ cls := "ChanceArena$Residues", name := "swapRows", desc := "(II)V" } : Jvm.MethodName), prog_8_method_4_code, 5, (Option.none : Option Jvm.ClassFile.FieldType))
def y_Re_clearBelow : mY := (({ cls := "ChanceArena$Residues", name := "clearBelow", desc := "(III)V" } : Jvm.MethodName), prog_8_method_5_code, 12, (Option.none : Option Jvm.ClassFile.FieldType))
def y_Re_substitute : mY := (({ cls := "ChanceArena$Residues", name := "substitute", desc := "(II)V" } : Jvm.MethodName), prog_8_method_6_code, 9, (Option.none : Option Jvm.ClassFile.FieldType))
def y_Re_combine : mY := (({ cls := "ChanceArena$Residues", name := "combine", desc := "(II)V" } : Jvm.MethodName), prog_8_method_7_code, 8, (Option.none : Option Jvm.ClassFile.FieldType))
def y_Re_inverse : mY := (({ cls := "ChanceArena$Residues", name := "inverse", desc := "(II)I" } : Jvm.MethodName), prog_8_method_8_code, 17, (Option.some Jvm.ClassFile.FieldType.int))
def y_RR_init : mY := (({ cls := "ChanceArena$RuleReader", name := "<init>", desc := "()V" } : Jvm.MethodName), prog_9_method_1_code, 1, (Option.none : Option Jvm.ClassFile.FieldType))
def y_RR_begin : mY := (({ cls := "ChanceArena$RuleReader", name := "begin", desc := "(LChanceArena$Words;LChanceArena$Program;)V" } : Jvm.MethodName), prog_9_method_2_code, 3, (Option.none : Option Jvm.ClassFile.FieldType))
def y_RR_here : mY := (({ cls := "ChanceArena$RuleReader", name := "here", desc := "()I" } : Jvm.MethodName), prog_9_method_3_code, 1, (Option.some Jvm.ClassFile.FieldType.int))
def y_RR_accept : mY := (({ cls := "ChanceArena$RuleReader", name := "accept", desc := "(I)Z" } : Jvm.MethodName), prog_9_method_4_code, 2, (Option.some Jvm.ClassFile.FieldType.boolean))
def y_RR_note : mY := (({ cls := "ChanceArena$RuleReader", name := "note", desc := "(II)V" } : Jvm.MethodName), prog_9_method_5_code, 3, (Option.none : Option Jvm.ClassFile.FieldType))
def y_RR_know : mY := (({ cls := "ChanceArena$RuleReader", name := "know", desc := "(IIIZ)V" } : Jvm.MethodName), prog_9_method_6_code, 5, (Option.none : Option Jvm.ClassFile.FieldType))
def y_RR_find : mY := (({ cls := "ChanceArena$RuleReader", name := "find", desc := "(I)I" } : Jvm.MethodName), prog_9_method_7_code, 5, (Option.some Jvm.ClassFile.FieldType.int))
def y_RR_varOf : mY := (({ cls := "ChanceArena$RuleReader", name := "varOf", desc := "(I)I" } : Jvm.MethodName), prog_9_method_8_code, 3, (Option.some Jvm.ClassFile.FieldType.int))
def y_RR_kindOf : mY := (({ cls := "ChanceArena$RuleReader", name := "kindOf", desc := "(I)I" } : Jvm.MethodName), prog_9_method_9_code, 3, (Option.some Jvm.ClassFile.FieldType.int))
def y_RR_isTruth : mY := (({ cls := "ChanceArena$RuleReader", name := "isTruth", desc := "()Z" } : Jvm.MethodName), prog_9_method_10_code, 1, (Option.some Jvm.ClassFile.FieldType.boolean))
def y_RR_readRule : mY := (({ cls := "ChanceArena$RuleReader", name := "readRule", desc := "(IZ)Z" } : Jvm.MethodName), prog_9_method_11_code, 6, (Option.some Jvm.ClassFile.FieldType.boolean))
def y_RR_takeOperand : mY := (({ cls := "ChanceArena$RuleReader", name := "takeOperand", desc := "()I" } : Jvm.MethodName), prog_9_method_12_code, 4, (Option.some Jvm.ClassFile.FieldType.int))
def y_RR_mayDeny : mY := (({ cls := "ChanceArena$RuleReader", name := "mayDeny", desc := "()Z" } : Jvm.MethodName), prog_9_method_13_code, 2, (Option.some Jvm.ClassFile.FieldType.boolean))
def y_RR_takeValue : mY := (({ cls := "ChanceArena$RuleReader", name := "takeValue", desc := "(IIZ)I" } : Jvm.MethodName), prog_9_method_14_code, 4, (Option.some Jvm.ClassFile.FieldType.int))
def y_RR_pushKind : mY := (({ cls := "ChanceArena$RuleReader", name := "pushKind", desc := "(Z)V" } : Jvm.MethodName), prog_9_method_15_code, 2, (Option.none : Option Jvm.ClassFile.FieldType))
def y_RR_popKind : mY := (({ cls := "ChanceArena$RuleReader", name := "popKind", desc := "()Z" } : Jvm.MethodName), prog_9_method_16_code, 1, (Option.some Jvm.ClassFile.FieldType.boolean))
def y_RR_takeLevel : mY := (({ cls := "ChanceArena$RuleReader", name := "takeLevel", desc := "(II)I" } : Jvm.MethodName), prog_9_method_17_code, 3, (Option.some Jvm.ClassFile.FieldType.int))
def y_RR_push : mY := (({ cls := "ChanceArena$RuleReader", name := "push", desc := "(III)V" } : Jvm.MethodName), prog_9_method_18_code, 4, (Option.none : Option Jvm.ClassFile.FieldType))
def y_RR_level : mY := (({ cls := "ChanceArena$RuleReader", name := "level", desc := "(I)I" } : Jvm.MethodName), prog_9_method_19_code, 1, (Option.some Jvm.ClassFile.FieldType.int))
def y_RR_takeOperator : mY := (({ cls := "ChanceArena$RuleReader", name := "takeOperator", desc := "(Z)I" } : Jvm.MethodName), prog_9_method_20_code, 5, (Option.some Jvm.ClassFile.FieldType.int))
def y_RR_takeSign : mY := (({ cls := "ChanceArena$RuleReader", name := "takeSign", desc := "(II)I" } : Jvm.MethodName), prog_9_method_21_code, 3, (Option.some Jvm.ClassFile.FieldType.int))
def y_RR_takeAsk : mY := (({ cls := "ChanceArena$RuleReader", name := "takeAsk", desc := "()I" } : Jvm.MethodName), prog_9_method_22_code, 2, (Option.some Jvm.ClassFile.FieldType.int))
def y_RR_closeInner : mY := (({ cls := "ChanceArena$RuleReader", name := "closeInner", desc := "(II)I" } : Jvm.MethodName), prog_9_method_23_code, 7, (Option.some Jvm.ClassFile.FieldType.int))
def y_RR_group : mY := (({ cls := "ChanceArena$RuleReader", name := "group", desc := "()V" } : Jvm.MethodName), prog_9_method_24_code, 5, (Option.none : Option Jvm.ClassFile.FieldType))
def y_Sc_init : mY := (({ cls := "ChanceArena$Scales", name := "<init>", desc := "()V" } : Jvm.MethodName), prog_10_method_1_code, 1, (Option.none : Option Jvm.ClassFile.FieldType))
def y_Sc_wholePart : mY := (({ cls := "ChanceArena$Scales", name := "wholePart", desc := "(LChanceArena$Natural;LChanceArena$Natural;)I" } : Jvm.MethodName), prog_10_method_2_code, 3, (Option.some Jvm.ClassFile.FieldType.int))
def y_Sc_commonDivisor : mY := (({ cls := "ChanceArena$Scales", name := "commonDivisor", desc := "(LChanceArena$Natural;LChanceArena$Natural;)LChanceArena$Natural;" } : Jvm.MethodName), prog_10_method_3_code, 9, (Option.some (Jvm.ClassFile.FieldType.object "ChanceArena$Natural")))
def y_Sc_findFactors : mY := (({ cls := "ChanceArena$Scales", name := "findFactors", desc := "(JJ)Z" } : Jvm.MethodName), prog_10_method_4_code, 26, (Option.some Jvm.ClassFile.FieldType.boolean))
def y_Sc_reduce : mY := (({ cls := "ChanceArena$Scales", name := "reduce", desc := "(LChanceArena$Fraction;)V" } : Jvm.MethodName), prog_10_method_5_code, 3, (Option.none : Option Jvm.ClassFile.FieldType))
def y_Sc_order : mY := (({ cls := "ChanceArena$Scales", name := "order", desc := "(LChanceArena$Fraction;LChanceArena$Fraction;)I" } : Jvm.MethodName), prog_10_method_6_code, 3, (Option.some Jvm.ClassFile.FieldType.int))
def y_Sc_weigh : mY := (({ cls := "ChanceArena$Scales", name := "weigh", desc := "(LChanceArena$Game;ILChanceArena$Fractions;LChanceArena$Fraction;)V" } : Jvm.MethodName), prog_10_method_7_code, 9, (Option.none : Option Jvm.ClassFile.FieldType))
def y_Sc_pick : mY := (({ cls := "ChanceArena$Scales", name := "pick", desc := "(LChanceArena$Game;IIZLChanceArena$Fractions;)I" } : Jvm.MethodName), prog_10_method_8_code, 10, (Option.some Jvm.ClassFile.FieldType.int))
def y_Sc_orderOfPicked : mY := (({ cls := "ChanceArena$Scales", name := "orderOfPicked", desc := "(LChanceArena$Fraction;)I" } : Jvm.MethodName), prog_10_method_9_code, 2, (Option.some Jvm.ClassFile.FieldType.int))
def y_Sc_move : mY := (({ cls := "ChanceArena$Scales", name := "move", desc := "(LChanceArena$Game;LChanceArena$Fractions;LChanceArena$Fractions;)Z" } : Jvm.MethodName), prog_10_method_10_code, 7, (Option.some Jvm.ClassFile.FieldType.boolean))
def y_Sc_fits : mY := (({ cls := "ChanceArena$Scales", name := "fits", desc := "(LChanceArena$Fraction;)Z" } : Jvm.MethodName), prog_10_method_11_code, 2, (Option.some Jvm.ClassFile.FieldType.boolean))
def y_So_init : mY := (({ cls := "ChanceArena$Solver", name := "<init>", desc := "(LChanceArena$Game;)V" } : Jvm.MethodName), prog_11_method_1_code, 2, (Option.none : Option Jvm.ClassFile.FieldType))
def y_So_workOut : mY := (({ cls := "ChanceArena$Solver", name := "workOut", desc := "(ILChanceArena$Fractions;)I" } : Jvm.MethodName), prog_11_method_2_code, 6, (Option.some Jvm.ClassFile.FieldType.int))
def y_So_leaveCommands : mY := (({ cls := "ChanceArena$Solver", name := "leaveCommands", desc := "(I)V" } : Jvm.MethodName), prog_11_method_3_code, 4, (Option.none : Option Jvm.ClassFile.FieldType))
def y_So_findUnknown : mY := (({ cls := "ChanceArena$Solver", name := "findUnknown", desc := "()Z" } : Jvm.MethodName), prog_11_method_4_code, 5, (Option.some Jvm.ClassFile.FieldType.boolean))
def y_So_wayFrom : mY := (({ cls := "ChanceArena$Solver", name := "wayFrom", desc := "(I)I" } : Jvm.MethodName), prog_11_method_5_code, 4, (Option.some Jvm.ClassFile.FieldType.int))
def y_So_comesOn : mY := (({ cls := "ChanceArena$Solver", name := "comesOn", desc := "(I)Z" } : Jvm.MethodName), prog_11_method_6_code, 4, (Option.some Jvm.ClassFile.FieldType.boolean))
def y_So_weights : mY := (({ cls := "ChanceArena$Solver", name := "weights", desc := "()I" } : Jvm.MethodName), prog_11_method_7_code, 5, (Option.some Jvm.ClassFile.FieldType.int))
def y_So_evaluate : mY := (({ cls := "ChanceArena$Solver", name := "evaluate", desc := "(LChanceArena$Fractions;)V" } : Jvm.MethodName), prog_11_method_8_code, 9, (Option.none : Option Jvm.ClassFile.FieldType))
def y_So_improve : mY := (({ cls := "ChanceArena$Solver", name := "improve", desc := "(ILChanceArena$Fractions;)Z" } : Jvm.MethodName), prog_11_method_9_code, 7, (Option.some Jvm.ClassFile.FieldType.boolean))
def y_So_listOthers : mY := (({ cls := "ChanceArena$Solver", name := "listOthers", desc := "()V" } : Jvm.MethodName), prog_11_method_10_code, 1, (Option.none : Option Jvm.ClassFile.FieldType))
def y_So_addOthers : mY := (({ cls := "ChanceArena$Solver", name := "addOthers", desc := "(I)V" } : Jvm.MethodName), prog_11_method_11_code, 5, (Option.none : Option Jvm.ClassFile.FieldType))
def y_So_addToDraw : mY := (({ cls := "ChanceArena$Solver", name := "addToDraw", desc := "(I)V" } : Jvm.MethodName), prog_11_method_12_code, 3, (Option.none : Option Jvm.ClassFile.FieldType))
def y_So_mix : mY := (({ cls := "ChanceArena$Solver", name := "mix", desc := "(II)V" } : Jvm.MethodName), prog_11_method_13_code, 6, (Option.none : Option Jvm.ClassFile.FieldType))
def y_So_improveOne : mY := (({ cls := "ChanceArena$Solver", name := "improveOne", desc := "(LChanceArena$Fractions;)Z" } : Jvm.MethodName), prog_11_method_14_code, 5, (Option.some Jvm.ClassFile.FieldType.boolean))
def y_So_rankAndChoose : mY := (({ cls := "ChanceArena$Solver", name := "rankAndChoose", desc := "(LChanceArena$Fractions;)V" } : Jvm.MethodName), prog_11_method_15_code, 7, (Option.none : Option Jvm.ClassFile.FieldType))
def y_So_attain : mY := (({ cls := "ChanceArena$Solver", name := "attain", desc := "(LChanceArena$Fractions;)Z" } : Jvm.MethodName), prog_11_method_16_code, 9, (Option.some Jvm.ClassFile.FieldType.boolean))
def y_So_fillRanks : mY := (({ cls := "ChanceArena$Solver", name := "fillRanks", desc := "(LChanceArena$Fractions;[I)V" } : Jvm.MethodName), prog_11_method_17_code, 6, (Option.none : Option Jvm.ClassFile.FieldType))
def y_So_earns : mY := (({ cls := "ChanceArena$Solver", name := "earns", desc := "(II[I)Z" } : Jvm.MethodName), prog_11_method_18_code, 6, (Option.some Jvm.ClassFile.FieldType.boolean))
def y_So_leadsBelow : mY := (({ cls := "ChanceArena$Solver", name := "leadsBelow", desc := "(II[I)Z" } : Jvm.MethodName), prog_11_method_19_code, 6, (Option.some Jvm.ClassFile.FieldType.boolean))
def y_So_holds : mY := (({ cls := "ChanceArena$Solver", name := "holds", desc := "(LChanceArena$Fractions;)Z" } : Jvm.MethodName), prog_11_method_20_code, 5, (Option.some Jvm.ClassFile.FieldType.boolean))
def y_TR_init : mY := (({ cls := "ChanceArena$TextReader", name := "<init>", desc := "()V" } : Jvm.MethodName), prog_12_method_1_code, 1, (Option.none : Option Jvm.ClassFile.FieldType))
def y_TR_faultPlace : mY := (({ cls := "ChanceArena$TextReader", name := "faultPlace", desc := "()I" } : Jvm.MethodName), prog_12_method_2_code, 1, (Option.some Jvm.ClassFile.FieldType.int))
def y_TR_translate : mY := (({ cls := "ChanceArena$TextReader", name := "translate", desc := "(LChanceArena$Words;LChanceArena$Program;)I" } : Jvm.MethodName), prog_12_method_3_code, 6, (Option.some Jvm.ClassFile.FieldType.int))
def y_TR_readName : mY := (({ cls := "ChanceArena$TextReader", name := "readName", desc := "(Z)Z" } : Jvm.MethodName), prog_12_method_4_code, 2, (Option.some Jvm.ClassFile.FieldType.boolean))
def y_TR_readItemRule : mY := (({ cls := "ChanceArena$TextReader", name := "readItemRule", desc := "(II)Z" } : Jvm.MethodName), prog_12_method_5_code, 3, (Option.some Jvm.ClassFile.FieldType.boolean))
def y_TR_readNamed : mY := (({ cls := "ChanceArena$TextReader", name := "readNamed", desc := "(I)Z" } : Jvm.MethodName), prog_12_method_6_code, 2, (Option.some Jvm.ClassFile.FieldType.boolean))
def y_TR_settleNamed : mY := (({ cls := "ChanceArena$TextReader", name := "settleNamed", desc := "(I)V" } : Jvm.MethodName), prog_12_method_7_code, 3, (Option.none : Option Jvm.ClassFile.FieldType))
def y_TR_worksOut : mY := (({ cls := "ChanceArena$TextReader", name := "worksOut", desc := "(IZ)Z" } : Jvm.MethodName), prog_12_method_8_code, 3, (Option.some Jvm.ClassFile.FieldType.boolean))
def y_TR_readVar : mY := (({ cls := "ChanceArena$TextReader", name := "readVar", desc := "()Z" } : Jvm.MethodName), prog_12_method_9_code, 1, (Option.some Jvm.ClassFile.FieldType.boolean))
def y_TR_settleVar : mY := (({ cls := "ChanceArena$TextReader", name := "settleVar", desc := "()V" } : Jvm.MethodName), prog_12_method_10_code, 4, (Option.none : Option Jvm.ClassFile.FieldType))
def y_TR_readTarget : mY := (({ cls := "ChanceArena$TextReader", name := "readTarget", desc := "()Z" } : Jvm.MethodName), prog_12_method_11_code, 1, (Option.some Jvm.ClassFile.FieldType.boolean))
def y_TR_readCommand : mY := (({ cls := "ChanceArena$TextReader", name := "readCommand", desc := "(I)Z" } : Jvm.MethodName), prog_12_method_12_code, 5, (Option.some Jvm.ClassFile.FieldType.boolean))
def y_TR_readChance : mY := (({ cls := "ChanceArena$TextReader", name := "readChance", desc := "(I)Z" } : Jvm.MethodName), prog_12_method_13_code, 5, (Option.some Jvm.ClassFile.FieldType.boolean))
def y_TR_readSets : mY := (({ cls := "ChanceArena$TextReader", name := "readSets", desc := "()Z" } : Jvm.MethodName), prog_12_method_14_code, 7, (Option.some Jvm.ClassFile.FieldType.boolean))
def y_Wo_init : mY := (({ cls := "ChanceArena$Words", name := "<init>", desc := "()V" } : Jvm.MethodName), prog_13_method_1_code, 1, (Option.none : Option Jvm.ClassFile.FieldType))
def y_Wo_split : mY := (({ cls := "ChanceArena$Words", name := "split", desc := "([CI)V" } : Jvm.MethodName), prog_13_method_2_code, 5, (Option.none : Option Jvm.ClassFile.FieldType))
def y_Wo_reserve : mY := (({ cls := "ChanceArena$Words", name := "reserve", desc := "(I)V" } : Jvm.MethodName), prog_13_method_3_code, 4, (Option.none : Option Jvm.ClassFile.FieldType))
def y_Wo_add : mY := (({ cls := "ChanceArena$Words", name := "add", desc := "(III)V" } : Jvm.MethodName), prog_13_method_4_code, 4, (Option.none : Option Jvm.ClassFile.FieldType))
def y_Wo_afterBlanks : mY := (({ cls := "ChanceArena$Words", name := "afterBlanks", desc := "(I)I" } : Jvm.MethodName), prog_13_method_5_code, 5, (Option.some Jvm.ClassFile.FieldType.int))
def y_Wo_takeWord : mY := (({ cls := "ChanceArena$Words", name := "takeWord", desc := "(I)I" } : Jvm.MethodName), prog_13_method_6_code, 6, (Option.some Jvm.ClassFile.FieldType.int))
def y_Wo_takeName : mY := (({ cls := "ChanceArena$Words", name := "takeName", desc := "(I)I" } : Jvm.MethodName), prog_13_method_7_code, 4, (Option.some Jvm.ClassFile.FieldType.int))
def y_Wo_takeNumber : mY := (({ cls := "ChanceArena$Words", name := "takeNumber", desc := "(I)I" } : Jvm.MethodName), prog_13_method_8_code, 5, (Option.some Jvm.ClassFile.FieldType.int))
def y_Wo_isLetter : mY := (({ cls := "ChanceArena$Words", name := "isLetter", desc := "(C)Z" } : Jvm.MethodName), prog_13_method_9_code, 1, (Option.some Jvm.ClassFile.FieldType.boolean))
def y_Wo_isDigit : mY := (({ cls := "ChanceArena$Words", name := "isDigit", desc := "(C)Z" } : Jvm.MethodName), prog_13_method_10_code, 1, (Option.some Jvm.ClassFile.FieldType.boolean))
def y_Wo_longSign : mY := (({ cls := "ChanceArena$Words", name := "longSign", desc := "(CC)I" } : Jvm.MethodName), prog_13_method_11_code, 2, (Option.some Jvm.ClassFile.FieldType.int))
def y_Wo_shortSign : mY := (({ cls := "ChanceArena$Words", name := "shortSign", desc := "(C)I" } : Jvm.MethodName), prog_13_method_12_code, 1, (Option.some Jvm.ClassFile.FieldType.int))
def y_Wo_nameSort : mY := (({ cls := "ChanceArena$Words", name := "nameSort", desc := "(II)I" } : Jvm.MethodName), prog_13_method_13_code, 3, (Option.some Jvm.ClassFile.FieldType.int))
def y_Wo_spells : mY := (({ cls := "ChanceArena$Words", name := "spells", desc := "(ILjava/lang/String;)Z" } : Jvm.MethodName), prog_13_method_14_code, 4, (Option.some Jvm.ClassFile.FieldType.boolean))
def y_Wo_same : mY := (({ cls := "ChanceArena$Words", name := "same", desc := "(III)Z" } : Jvm.MethodName), prog_13_method_15_code, 5, (Option.some Jvm.ClassFile.FieldType.boolean))
def y_MF_init : mY := (({ cls := "ChanceArenaModel$Fraction", name := "<init>", desc := "(I)V" } : Jvm.MethodName), prog_16_method_1_code, 2, (Option.none : Option Jvm.ClassFile.FieldType))
def y_MF_set : mY := (({ cls := "ChanceArenaModel$Fraction", name := "set", desc := "(JJ)V" } : Jvm.MethodName), prog_16_method_2_code, 5, (Option.none : Option Jvm.ClassFile.FieldType))
def y_MF_copy : mY := (({ cls := "ChanceArenaModel$Fraction", name := "copy", desc := "(LChanceArenaModel$Fraction;)V" } : Jvm.MethodName), prog_16_method_3_code, 2, (Option.none : Option Jvm.ClassFile.FieldType))
def y_MF_isZero : mY := (({ cls := "ChanceArenaModel$Fraction", name := "isZero", desc := "()Z" } : Jvm.MethodName), prog_16_method_4_code, 1, (Option.some Jvm.ClassFile.FieldType.boolean))
def y_MG_init : mY := (({ cls := "ChanceArenaModel$Game", name := "<init>", desc := "()V" } : Jvm.MethodName), prog_17_method_1_code, 1, (Option.none : Option Jvm.ClassFile.FieldType))
def y_MG_clear : mY := (({ cls := "ChanceArenaModel$Game", name := "clear", desc := "()V" } : Jvm.MethodName), prog_17_method_2_code, 1, (Option.none : Option Jvm.ClassFile.FieldType))
def y_MN_init : mY := (({ cls := "ChanceArenaModel$Numbers", name := "<init>", desc := "()V" } : Jvm.MethodName), prog_18_method_1_code, 1, (Option.none : Option Jvm.ClassFile.FieldType))
def y_MN_add : mY := (({ cls := "ChanceArenaModel$Numbers", name := "add", desc := "(I)V" } : Jvm.MethodName), prog_18_method_2_code, 4, (Option.none : Option Jvm.ClassFile.FieldType))
def y_MN_at : mY := (({ cls := "ChanceArenaModel$Numbers", name := "at", desc := "(I)I" } : Jvm.MethodName), prog_18_method_3_code, 2, (Option.some Jvm.ClassFile.FieldType.int))
def y_MN_last : mY := (({ cls := "ChanceArenaModel$Numbers", name := "last", desc := "()I" } : Jvm.MethodName), prog_18_method_4_code, 1, (Option.some Jvm.ClassFile.FieldType.int))
def y_MN_take : mY := (({ cls := "ChanceArenaModel$Numbers", name := "take", desc := "()I" } : Jvm.MethodName), prog_18_method_5_code, 1, (Option.some Jvm.ClassFile.FieldType.int))
def y_MS_init : mY := (({ cls := "ChanceArenaModel$Solver", name := "<init>", desc := "()V" } : Jvm.MethodName), prog_19_method_1_code, 3, (Option.none : Option Jvm.ClassFile.FieldType))
def y_MS_clear : mY := (({ cls := "ChanceArenaModel$Solver", name := "clear", desc := "()V" } : Jvm.MethodName), prog_19_method_2_code, 2, (Option.none : Option Jvm.ClassFile.FieldType))
def y_MS_addState : mY := (({ cls := "ChanceArenaModel$Solver", name := "addState", desc := "(I)V" } : Jvm.MethodName), prog_19_method_3_code, 2, (Option.none : Option Jvm.ClassFile.FieldType))
def y_MS_addCommand : mY := (({ cls := "ChanceArenaModel$Solver", name := "addCommand", desc := "(I)V" } : Jvm.MethodName), prog_19_method_4_code, 2, (Option.none : Option Jvm.ClassFile.FieldType))
def y_MS_addBranch : mY := (({ cls := "ChanceArenaModel$Solver", name := "addBranch", desc := "(III)V" } : Jvm.MethodName), prog_19_method_5_code, 4, (Option.none : Option Jvm.ClassFile.FieldType))
def y_MS_many : mY := (({ cls := "ChanceArenaModel$Solver", name := "many", desc := "(I)I" } : Jvm.MethodName), prog_19_method_6_code, 2, (Option.some Jvm.ClassFile.FieldType.int))
def y_MS_may : mY := (({ cls := "ChanceArenaModel$Solver", name := "may", desc := "(II)Z" } : Jvm.MethodName), prog_19_method_7_code, 3, (Option.some Jvm.ClassFile.FieldType.boolean))
def y_MS_leadsIn : mY := (({ cls := "ChanceArenaModel$Solver", name := "leadsIn", desc := "(II)Z" } : Jvm.MethodName), prog_19_method_8_code, 6, (Option.some Jvm.ClassFile.FieldType.boolean))
def y_MS_comes : mY := (({ cls := "ChanceArenaModel$Solver", name := "comes", desc := "(IZ)Z" } : Jvm.MethodName), prog_19_method_9_code, 8, (Option.some Jvm.ClassFile.FieldType.boolean))
def y_MS_grow : mY := (({ cls := "ChanceArenaModel$Solver", name := "grow", desc := "(Z)V" } : Jvm.MethodName), prog_19_method_10_code, 4, (Option.none : Option Jvm.ClassFile.FieldType))
def y_MS_weight : mY := (({ cls := "ChanceArenaModel$Solver", name := "weight", desc := "(J)I" } : Jvm.MethodName), prog_19_method_11_code, 3, (Option.some Jvm.ClassFile.FieldType.int))
def y_MS_look : mY := (({ cls := "ChanceArenaModel$Solver", name := "look", desc := "()I" } : Jvm.MethodName), prog_19_method_12_code, 7, (Option.some Jvm.ClassFile.FieldType.int))
def y_MS_worthOf : mY := (({ cls := "ChanceArenaModel$Solver", name := "worthOf", desc := "(II[LChanceArenaModel$Fraction;II)V" } : Jvm.MethodName), prog_19_method_13_code, 8, (Option.none : Option Jvm.ClassFile.FieldType))
def y_MS_cell : mY := (({ cls := "ChanceArenaModel$Solver", name := "cell", desc := "(II)LChanceArenaModel$Fraction;" } : Jvm.MethodName), prog_19_method_14_code, 3, (Option.some (Jvm.ClassFile.FieldType.object "ChanceArenaModel$Fraction")))
def y_MS_writeRows : mY := (({ cls := "ChanceArenaModel$Solver", name := "writeRows", desc := "()V" } : Jvm.MethodName), prog_19_method_15_code, 7, (Option.none : Option Jvm.ClassFile.FieldType))
def y_MS_solveRows : mY := (({ cls := "ChanceArenaModel$Solver", name := "solveRows", desc := "()V" } : Jvm.MethodName), prog_19_method_16_code, 3, (Option.none : Option Jvm.ClassFile.FieldType))
def y_MS_clearColumn : mY := (({ cls := "ChanceArenaModel$Solver", name := "clearColumn", desc := "(II)V" } : Jvm.MethodName), prog_19_method_17_code, 4, (Option.none : Option Jvm.ClassFile.FieldType))
def y_MS_settle : mY := (({ cls := "ChanceArenaModel$Solver", name := "settle", desc := "()V" } : Jvm.MethodName), prog_19_method_18_code, 2, (Option.none : Option Jvm.ClassFile.FieldType))
def y_MS_answer : mY := (({ cls := "ChanceArenaModel$Solver", name := "answer", desc := "()V" } : Jvm.MethodName), prog_19_method_19_code, 3, (Option.none : Option Jvm.ClassFile.FieldType))
def y_MS_improve : mY := (({ cls := "ChanceArenaModel$Solver", name := "improve", desc := "(II)Z" } : Jvm.MethodName), prog_19_method_20_code, 5, (Option.some Jvm.ClassFile.FieldType.boolean))
def y_MS_firstThatMay : mY := (({ cls := "ChanceArenaModel$Solver", name := "firstThatMay", desc := "(I)I" } : Jvm.MethodName), prog_19_method_21_code, 2, (Option.some Jvm.ClassFile.FieldType.int))
def y_MS_work : mY := (({ cls := "ChanceArenaModel$Solver", name := "work", desc := "(II)I" } : Jvm.MethodName), prog_19_method_22_code, 6, (Option.some Jvm.ClassFile.FieldType.int))
def y_MS_solve : mY := (({ cls := "ChanceArenaModel$Solver", name := "solve", desc := "()I" } : Jvm.MethodName), prog_19_method_23_code, 2, (Option.some Jvm.ClassFile.FieldType.int))
def y_MS_judge : mY := (({ cls := "ChanceArenaModel$Solver", name := "judge", desc := "(I)I" } : Jvm.MethodName), prog_19_method_24_code, 2, (Option.some Jvm.ClassFile.FieldType.int))
def y_MS_attains : mY := (({ cls := "ChanceArenaModel$Solver", name := "attains", desc := "(II)Z" } : Jvm.MethodName), prog_19_method_25_code, 3, (Option.some Jvm.ClassFile.FieldType.boolean))
def y_MS_leadsBelow : mY := (({ cls := "ChanceArenaModel$Solver", name := "leadsBelow", desc := "(III)Z" } : Jvm.MethodName), prog_19_method_26_code, 8, (Option.some Jvm.ClassFile.FieldType.boolean))
def y_MS_getsRank : mY := (({ cls := "ChanceArenaModel$Solver", name := "getsRank", desc := "(II)Z" } : Jvm.MethodName), prog_19_method_27_code, 7, (Option.some Jvm.ClassFile.FieldType.boolean))
def y_MS_isUnknown : mY := (({ cls := "ChanceArenaModel$Solver", name := "isUnknown", desc := "(I)Z" } : Jvm.MethodName), prog_19_method_28_code, 2, (Option.some Jvm.ClassFile.FieldType.boolean))
def y_MS_rank : mY := (({ cls := "ChanceArenaModel$Solver", name := "rank", desc := "()V" } : Jvm.MethodName), prog_19_method_29_code, 4, (Option.none : Option Jvm.ClassFile.FieldType))
def y_MS_choose : mY := (({ cls := "ChanceArenaModel$Solver", name := "choose", desc := "(I)I" } : Jvm.MethodName), prog_19_method_30_code, 4, (Option.some Jvm.ClassFile.FieldType.int))
def y_MS_move : mY := (({ cls := "ChanceArenaModel$Solver", name := "move", desc := "(I)Z" } : Jvm.MethodName), prog_19_method_31_code, 4, (Option.some Jvm.ClassFile.FieldType.boolean))
def y_MS_within : mY := (({ cls := "ChanceArenaModel$Solver", name := "within", desc := "(I)I" } : Jvm.MethodName), prog_19_method_32_code, 4, (Option.some Jvm.ClassFile.FieldType.int))
def y_MS_isThere : mY := (({ cls := "ChanceArenaModel$Solver", name := "isThere", desc := "(II)Z" } : Jvm.MethodName), prog_19_method_33_code, 3, (Option.some Jvm.ClassFile.FieldType.boolean))
def y_MS_compare : mY := (({ cls := "ChanceArenaModel$Solver", name := "compare", desc := "(IIII)I" } : Jvm.MethodName), prog_19_method_34_code, 5, (Option.some Jvm.ClassFile.FieldType.int))
def y_MS_billionths : mY := (({ cls := "ChanceArenaModel$Solver", name := "billionths", desc := "(II)I" } : Jvm.MethodName), prog_19_method_35_code, 3, (Option.some Jvm.ClassFile.FieldType.int))
def y_MS_say : mY := (({ cls := "ChanceArenaModel$Solver", name := "say", desc := "(LChanceArenaModel$Whole;[II)I" } : Jvm.MethodName), prog_19_method_36_code, 6, (Option.some Jvm.ClassFile.FieldType.int))
def y_MS_print : mY := (({ cls := "ChanceArenaModel$Solver", name := "print", desc := "(II[I)I" } : Jvm.MethodName), prog_19_method_37_code, 6, (Option.some Jvm.ClassFile.FieldType.int))
def y_MS_tell : mY := (({ cls := "ChanceArenaModel$Solver", name := "tell", desc := "(II)V" } : Jvm.MethodName), prog_19_method_39_code, 3, (Option.none : Option Jvm.ClassFile.FieldType))
def y_MS_adopt : mY := (({ cls := "ChanceArenaModel$Solver", name := "adopt", desc := "()V" } : Jvm.MethodName), prog_19_method_40_code, 2, (Option.none : Option Jvm.ClassFile.FieldType))
def y_MS_hasValues : mY := (({ cls := "ChanceArenaModel$Solver", name := "hasValues", desc := "()Z" } : Jvm.MethodName), prog_19_method_41_code, 1, (Option.some Jvm.ClassFile.FieldType.boolean))
def y_MS_choiceOf : mY := (({ cls := "ChanceArenaModel$Solver", name := "choiceOf", desc := "(I)I" } : Jvm.MethodName), prog_19_method_42_code, 2, (Option.some Jvm.ClassFile.FieldType.int))
def y_MS_rankOf : mY := (({ cls := "ChanceArenaModel$Solver", name := "rankOf", desc := "(I)I" } : Jvm.MethodName), prog_19_method_43_code, 2, (Option.some Jvm.ClassFile.FieldType.int))
def y_MS_nextOf : mY := (({ cls := "ChanceArenaModel$Solver", name := "nextOf", desc := "(II)I" } : Jvm.MethodName), prog_19_method_44_code, 9, (Option.some Jvm.ClassFile.FieldType.int))
def y_MU_init : mY := (({ cls := "ChanceArenaModel$Sums", name := "<init>", desc := "()V" } : Jvm.MethodName), prog_20_method_1_code, 1, (Option.none : Option Jvm.ClassFile.FieldType))
def y_MU_bring : mY := (({ cls := "ChanceArenaModel$Sums", name := "bring", desc := "(LChanceArenaModel$Whole;Z)V" } : Jvm.MethodName), prog_20_method_2_code, 2, (Option.none : Option Jvm.ClassFile.FieldType))
def y_MU_divide0 : mY := (({ cls := "ChanceArenaModel$Sums", name := "divide", desc := "(LChanceArenaModel$Whole;LChanceArenaModel$Whole;)V" } : Jvm.MethodName), prog_20_method_3_code, 5, (Option.none : Option Jvm.ClassFile.FieldType))
def y_MU_common : mY := (({ cls := "ChanceArenaModel$Sums", name := "common", desc := "()V" } : Jvm.MethodName), prog_20_method_4_code, 3, (Option.none : Option Jvm.ClassFile.FieldType))
def y_MU_settle : mY := (({ cls := "ChanceArenaModel$Sums", name := "settle", desc := "()V" } : Jvm.MethodName), prog_20_method_5_code, 1, (Option.none : Option Jvm.ClassFile.FieldType))
def y_MU_add : mY := (({ cls := "ChanceArenaModel$Sums", name := "add", desc := "(LChanceArenaModel$Fraction;LChanceArenaModel$Fraction;Z)V" } : Jvm.MethodName), prog_20_method_6_code, 5, (Option.none : Option Jvm.ClassFile.FieldType))
def y_MU_multiply : mY := (({ cls := "ChanceArenaModel$Sums", name := "multiply", desc := "(LChanceArenaModel$Fraction;LChanceArenaModel$Fraction;)V" } : Jvm.MethodName), prog_20_method_7_code, 3, (Option.none : Option Jvm.ClassFile.FieldType))
def y_MU_divide1 : mY := (({ cls := "ChanceArenaModel$Sums", name := "divide", desc := "(LChanceArenaModel$Fraction;LChanceArenaModel$Fraction;)V" } : Jvm.MethodName), prog_20_method_8_code, 3, (Option.none : Option Jvm.ClassFile.FieldType))
def y_MU_compare : mY := (({ cls := "ChanceArenaModel$Sums", name := "compare", desc := "(LChanceArenaModel$Fraction;LChanceArenaModel$Fraction;)I" } : Jvm.MethodName), prog_20_method_9_code, 3, (Option.some Jvm.ClassFile.FieldType.int))
def y_MU_billionths : mY := (({ cls := "ChanceArenaModel$Sums", name := "billionths", desc := "(LChanceArenaModel$Fraction;)I" } : Jvm.MethodName), prog_20_method_10_code, 5, (Option.some Jvm.ClassFile.FieldType.int))
def y_MU_digits : mY := (({ cls := "ChanceArenaModel$Sums", name := "digits", desc := "(LChanceArenaModel$Whole;[I)I" } : Jvm.MethodName), prog_20_method_11_code, 4, (Option.some Jvm.ClassFile.FieldType.int))
def y_MW_init : mY := (({ cls := "ChanceArenaModel$Whole", name := "<init>", desc := "(I)V" } : Jvm.MethodName), prog_21_method_1_code, 2, (Option.none : Option Jvm.ClassFile.FieldType))
def y_MW_set : mY := (({ cls := "ChanceArenaModel$Whole", name := "set", desc := "(J)V" } : Jvm.MethodName), prog_21_method_2_code, 5, (Option.none : Option Jvm.ClassFile.FieldType))
def y_MW_copy : mY := (({ cls := "ChanceArenaModel$Whole", name := "copy", desc := "(LChanceArenaModel$Whole;)V" } : Jvm.MethodName), prog_21_method_3_code, 3, (Option.none : Option Jvm.ClassFile.FieldType))
def y_MW_isZero : mY := (({ cls := "ChanceArenaModel$Whole", name := "isZero", desc := "()Z" } : Jvm.MethodName), prog_21_method_4_code, 1, (Option.some Jvm.ClassFile.FieldType.boolean))
def y_MW_isOne : mY := (({ cls := "ChanceArenaModel$Whole", name := "isOne", desc := "()Z" } : Jvm.MethodName), prog_21_method_5_code, 1, (Option.some Jvm.ClassFile.FieldType.boolean))
def y_MW_trim : mY := (({ cls := "ChanceArenaModel$Whole", name := "trim", desc := "()V" } : Jvm.MethodName), prog_21_method_6_code, 1, (Option.none : Option Jvm.ClassFile.FieldType))
def y_MW_compare : mY := (({ cls := "ChanceArenaModel$Whole", name := "compare", desc := "(LChanceArenaModel$Whole;)I" } : Jvm.MethodName), prog_21_method_7_code, 3, (Option.some Jvm.ClassFile.FieldType.int))
def y_MW_at : mY := (({ cls := "ChanceArenaModel$Whole", name := "at", desc := "(I)I" } : Jvm.MethodName), prog_21_method_8_code, 2, (Option.some Jvm.ClassFile.FieldType.int))
def y_MW_add : mY := (({ cls := "ChanceArenaModel$Whole", name := "add", desc := "(LChanceArenaModel$Whole;)V" } : Jvm.MethodName), prog_21_method_9_code, 6, (Option.none : Option Jvm.ClassFile.FieldType))
def y_MW_less : mY := (({ cls := "ChanceArenaModel$Whole", name := "less", desc := "(LChanceArenaModel$Whole;)V" } : Jvm.MethodName), prog_21_method_10_code, 5, (Option.none : Option Jvm.ClassFile.FieldType))
def y_MW_product : mY := (({ cls := "ChanceArenaModel$Whole", name := "product", desc := "(LChanceArenaModel$Whole;LChanceArenaModel$Whole;)V" } : Jvm.MethodName), prog_21_method_11_code, 7, (Option.none : Option Jvm.ClassFile.FieldType))
def y_MW_twice : mY := (({ cls := "ChanceArenaModel$Whole", name := "twice", desc := "(Z)V" } : Jvm.MethodName), prog_21_method_12_code, 5, (Option.none : Option Jvm.ClassFile.FieldType))
def y_MW_halve : mY := (({ cls := "ChanceArenaModel$Whole", name := "halve", desc := "()V" } : Jvm.MethodName), prog_21_method_13_code, 2, (Option.none : Option Jvm.ClassFile.FieldType))
def y_MW_isOdd : mY := (({ cls := "ChanceArenaModel$Whole", name := "isOdd", desc := "()Z" } : Jvm.MethodName), prog_21_method_14_code, 1, (Option.some Jvm.ClassFile.FieldType.boolean))
def y_MW_places : mY := (({ cls := "ChanceArenaModel$Whole", name := "places", desc := "()I" } : Jvm.MethodName), prog_21_method_15_code, 3, (Option.some Jvm.ClassFile.FieldType.int))
def y_MW_bit : mY := (({ cls := "ChanceArenaModel$Whole", name := "bit", desc := "(I)Z" } : Jvm.MethodName), prog_21_method_16_code, 2, (Option.some Jvm.ClassFile.FieldType.boolean))
def y_MW_tenth : mY := (({ cls := "ChanceArenaModel$Whole", name := "tenth", desc := "()I" } : Jvm.MethodName), prog_21_method_18_code, 4, (Option.some Jvm.ClassFile.FieldType.int))
def y_JA_copyOf : mY := (({ cls := "java/util/Arrays", name := "copyOf", desc := "([II)[I" } : Jvm.MethodName), prog_39_method_123_code, 3, (Option.some (Jvm.ClassFile.FieldType.array Jvm.ClassFile.FieldType.int)))
def y_JA_fillR : mY := (({ cls := "java/util/Arrays", name := "fill", desc := "([IIII)V" } : Jvm.MethodName), prog_39_method_104_code, 5, (Option.none : Option Jvm.ClassFile.FieldType))
def y_JA_fill : mY := (({ cls := "java/util/Arrays", name := "fill", desc := "([II)V" } : Jvm.MethodName), prog_39_method_103_code, 4, (Option.none : Option Jvm.ClassFile.FieldType))
def y_JA_rangeCheck : mY := (({ cls := "java/util/Arrays", name := "rangeCheck", desc := "(III)V" } : Jvm.MethodName), prog_39_method_30_code, 3, (Option.none : Option Jvm.ClassFile.FieldType))
def y_JI_nlz : mY := (({ cls := "java/lang/Integer", name := "numberOfLeadingZeros", desc := "(I)I" } : Jvm.MethodName), prog_29_method_47_code, 2, (Option.some Jvm.ClassFile.FieldType.int))
def y_JL_compare : mY := (({ cls := "java/lang/Long", name := "compare", desc := "(JJ)I" } : Jvm.MethodName), prog_30_method_42_code, 4, (Option.some Jvm.ClassFile.FieldType.int))
def y_JM_floorMod : mY := (({ cls := "java/lang/Math", name := "floorMod", desc := "(JJ)J" } : Jvm.MethodName), prog_31_method_52_code, 6, (Option.some Jvm.ClassFile.FieldType.long))
theorem m_fitZ {x : Int} (h : x = 0 ∨ x = 1) : fits .boolean (.int (Int32.ofInt x)) = true := by rcases h with q | q <;> subst q <;> rfl
/-- a long as it is kept -/
def w64 (x : Int) : Int := (Int64.ofInt x).toInt
theorem i64_w64 {x : Int} : i64 (w64 x) := by
  have h1 := Int64.le_toInt (Int64.ofInt x)
  have h2 := Int64.toInt_lt (Int64.ofInt x)
  unfold w64
  exact ⟨by omega, by omega⟩
theorem m_upL {M : mM} {a k : Nat} {x : Int} : fV .long (mUL M a k (w64 x)) a k = mcv (vl x) := by
  show mcv (vl (if a = a ∧ k = k then w64 x else mL M a k)) = _
  rw [if_pos ⟨rfl, rfl⟩]
  show Value.long (Int64.ofInt (w64 x)) = Value.long (Int64.ofInt x)
  rw [show Int64.ofInt (w64 x) = Int64.ofInt x from Int64.ofInt_toInt _]
theorem m_narR {ty : FieldType} {x : Nat} (h : ty.isReference = true) : narrow ty (mrv x) = mrv x := by
  unfold mrv
  cases ty <;> first | (cases h; done) | (split <;> rfl)
theorem m_fitR {ty : FieldType} {x : Nat} (h : ty.isReference = true) : fits ty (mrv x) = true := by
  unfold mrv
  cases ty <;> first | (cases h; done) | (split <;> rfl)
theorem m_upR {ty : FieldType} {M : mM} {a k x : Nat} (h : ty.isReference = true) : fV ty (mUR M a k x) a k = mrv x := by
  cases ty <;> first | (cases h; done) | (simp only [fV, mR_UR]; simp)
theorem m_upI {ty : FieldType} {M : mM} {a k : Nat} {x : Int} (h : (match ty with | .long => false | .object _ => false | .array _ => false | _ => true) = true) : fV ty (mUI M a k x) a k = mcv (vi x) := by
  cases ty <;> first | (cases h; done) | (simp only [fV, mI_UI]; simp)
end
