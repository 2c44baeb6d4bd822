/-! THE FLAT MACHINE'S RULES: rows of the library, switches, small rows for numbers. -/
theorem m_i32 (z : Int32) : i32 z.toInt := ⟨Int32.le_toInt z, Int32.toInt_lt z⟩
theorem m_i64 (z : Int64) : i64 z.toInt := ⟨Int64.le_toInt z, Int64.toInt_lt z⟩
theorem m_cmp32 (x z : Int) : i32 (cmpL x z) := by
  unfold cmpL i32
  split
  · omega
  · split <;> omega
theorem i64_of32 {x : Int} (h : i32 x) : i64 x := by unfold i32 at h; unfold i64; omega
theorem m_b32 {x : Int} (h : x = 0 ∨ x = 1) : i32 x := by unfold i32; omega
theorem m_nb {x : Int} (h : x = 0 ∨ x = 1) : narrow .boolean (.int (Int32.ofInt x)) = .int (Int32.ofInt x) := by rcases h with q | q <;> subst q <;> rfl
theorem m_ite32 {c : Prop} [Decidable c] {x z : Int} (hx : i32 x) (hz : i32 z) : i32 (if c then x else z) := by split <;> assumption
theorem m_tmod32 {x z : Int} (hx : i32 x) (_ : i32 z) : i32 (Int.tmod x z) := by
  have h1 := Int.natAbs_tmod x z
  have h2 := Nat.mod_le x.natAbs z.natAbs
  unfold i32 at *
  rcases Int.le_total 0 x with q | q
  · have := Int.tmod_nonneg z q
    omega
  · have : Int.tmod x z ≤ 0 := by
      have := Int.tmod_nonneg z (show 0 ≤ -x by omega)
      rw [Int.neg_tmod] at this
      omega
    omega
theorem m_tmod64 {x z : Int} (hx : i64 x) (_ : i64 z) : i64 (Int.tmod x z) := by
  have h1 := Int.natAbs_tmod x z
  have h2 := Nat.mod_le x.natAbs z.natAbs
  unfold i64 at *
  rcases Int.le_total 0 x with q | q
  · have := Int.tmod_nonneg z q
    omega
  · have : Int.tmod x z ≤ 0 := by
      have := Int.tmod_nonneg z (show 0 ≤ -x by omega)
      rw [Int.neg_tmod] at this
      omega
    omega
theorem m_tdivB {x z : Int} (hz : 0 < z) : (x.tdiv z).natAbs ≤ x.natAbs := by
  rw [Int.natAbs_tdiv]
  exact Nat.div_le_self _ _
theorem m_tdiv32 {x z : Int} (hx : i32 x) (hz : 0 < z) : i32 (Int.tdiv x z) := by
  have h1 := m_tdivB (x := x) hz
  unfold i32 at *
  rcases Int.le_total 0 x with q | q
  · have := Int.tdiv_nonneg q (Int.le_of_lt hz)
    omega
  · have : Int.tdiv x z ≤ 0 := by
      have := Int.tdiv_nonneg (show 0 ≤ -x by omega) (Int.le_of_lt hz)
      rw [Int.neg_tdiv] at this
      omega
    omega
/-- a stretch of one array into another -/
def mCpy (M : mM) (a0 a sp dp n : Nat) : mM := (mK M, mN M, fun b j => if b = a ∧ dp ≤ j ∧ j < dp + n then mI M a0 (sp + (j - dp)) else mI M b j, mL M, mR M, mZ M, mS M)
theorem mOk_Cpy {M : mM} {a0 a sp dp n : Nat} (h : mOk M) : mOk (mCpy M a0 a sp dp n) := by
  intro b j
  refine ⟨?_, (h b j).2⟩
  show i32 (if _ then _ else _)
  split
  · exact (h _ _).1
  · exact (h _ _).1
def xorL (x z : Int) : Int := (Int64.ofInt x ^^^ Int64.ofInt z).toInt
def nfw : Nat := nativeFrameWords "java/lang/System" "arraycopy" 5
theorem nfw_le : nfw + 11 ≤ 48 := by decide
section JRules
variable {G : mG} {y : mY} {d pc : Nat} {L st : List mV} {M M1 : mM} {Q : Option mV → mM → Prop}
theorem wm_iastE {a : Nat} {i x : Int} (hd : decode y.2.1 pc = .ok (.iastore, 1)) (hK : mK M a = 30) (hi : 0 ≤ i ∧ i < mN M a) (hx3 : i32 x) (e : M1 = mUI M a i.toNat x) (h : mWm G y d (pc + 1) L st M1 Q) : mWm G y d pc L (vi x :: vi i :: vr a :: st) M Q := by subst e; exact wm_iast hd hK hi hx3 h
theorem wm_zastE {a : Nat} {i x : Int} (hd : decode y.2.1 pc = .ok (.bastore, 1)) (hK : mK M a = 31) (hi : 0 ≤ i ∧ i < mN M a) (hx3 : x = 0 ∨ x = 1) (e : M1 = mUI M a i.toNat x) (h : mWm G y d (pc + 1) L st M1 Q) : mWm G y d pc L (vi x :: vi i :: vr a :: st) M Q := by subst e; exact wm_zast hd hK hi hx3 h
theorem wm_castE {a : Nat} {i x : Int} (hd : decode y.2.1 pc = .ok (.castore, 1)) (hK : mK M a = 32) (hi : 0 ≤ i ∧ i < mN M a) (hx3 : 0 ≤ x ∧ x < 65536) (e : M1 = mUI M a i.toNat x) (h : mWm G y d (pc + 1) L st M1 Q) : mWm G y d pc L (vi x :: vi i :: vr a :: st) M Q := by subst e; exact wm_cast hd hK hi hx3 h
theorem wm_lastE {a : Nat} {i x : Int} (hd : decode y.2.1 pc = .ok (.lastore, 1)) (hK : mK M a = 33) (hi : 0 ≤ i ∧ i < mN M a) (hx3 : i64 x) (e : M1 = mUL M a i.toNat x) (h : mWm G y d (pc + 1) L st M1 Q) : mWm G y d pc L (vl x :: vi i :: vr a :: st) M Q := by subst e; exact wm_last hd hK hi hx3 h
theorem wm_aastE {t c a v : Nat} {i : Int} {r : vw_C} (hty : arTy[t]? = some (.object r.1)) (hz : ∀ tA, (zT tA)[t]? = some (tA t, .object r.1)) (hcl : vwCl[c]? = some r) {t9 : Nat → FieldType} (hvt : vwTy[c]? = some t9) (hd : decode y.2.1 pc = .ok (.aastore, 1)) (hK : mK M a = 30 + t) (hi : 0 ≤ i ∧ i < mN M a) (hKv : mK M v = c + 1) (e : M1 = mUR M a i.toNat v) (h : mWm G y d (pc + 1) L st M1 Q) : mWm G y d pc L (vr v :: vi i :: vr a :: st) M Q := by subst e; exact wm_aast hty hz hcl hvt hd hK hi hKv h
theorem wm_newarrE (t : Nat) {atype : ArrayType} {ty : FieldType} (hat : newarray.typeOf atype = ty) (hty : arTy[t]? = some ty) (hz : ∀ tA, (zT tA)[t]? = some (tA t, ty)) (hpr : ty.isReference = false) (hdf : defaultValue ty = dV ty) (hcb : componentBytes ty ≤ 8) (hw : Cond.arrayClass ty ∈ lw_R) {n : Int} (hn : 0 ≤ n ∧ n ≤ 16777216) (hd : decode y.2.1 pc = .ok (.newarray atype, 2)) (e : M1 = mNew M (30 + t) n.toNat n.toNat) (h : mWm G y d (pc + 2) L (vr (mZ M) :: st) M1 Q) : mWm G y d pc L (vi n :: st) M Q := by
  subst e
  exact wm_newarr t hat hty hz (fun C q => by rw [q] at hpr; cases hpr) hdf hcb hw hn hd h
theorem wm_anewE (t : Nat) {C : String} {idx : Nat} (hty : arTy[t]? = some (.object C)) (hz : ∀ tA, (zT tA)[t]? = some (tA t, .object C)) (hw1 : Cond.classLink y.1.cls idx C ∈ lw_R) (hw2 : Cond.arrayOver (.object C) ∈ lw_R) {n : Int} (hn : 0 ≤ n ∧ n ≤ 16777216) (hd : decode y.2.1 pc = .ok (.anewarray idx, 3)) (e : M1 = mNew M (30 + t) n.toNat n.toNat) (h : mWm G y d (pc + 3) L (vr (mZ M) :: st) M1 Q) : mWm G y d pc L (vi n :: st) M Q := by subst e; exact wm_anew t hty hz hw1 hw2 hn hd h
theorem wm_lookup {x dflt : Int} {ps : Array (Int × Int)} {len : Nat} {off : Int} {tgt : Nat} (hd : decode y.2.1 pc = .ok (.lookupswitch dflt ps, len)) (hp : (ps.toList.zip (ps.toList.drop 1)).all (fun (a, next) => a.1 < next.1) = true) (hx : i32 x) (ho : Op.lookupswitch.offset ps.toList dflt x = off) (ht : (pc : Int) + off = (tgt : Int)) (h : mWm G y d tgt L st M Q) : mWm G y d pc L (vi x :: st) M Q :=
  wm_st (fun p e R s m args below meth c H locs cells slots ls Qf hA hR hL k => lv_lookup hA.1 hA.2.1 hd hp (by rw [i32_toInt hx]; exact ho) ht k) h
theorem wm_tableIn {x dflt lo hi : Int} {offs : Array Int} {len : Nat} {off : Int} {tgt : Nat} (hd : decode y.2.1 pc = .ok (.tableswitch dflt lo hi offs, len)) (hx : i32 x) (h1 : lo ≤ x) (h2 : x ≤ hi) (ho : offs[(x - lo).toNat]? = some off) (ht : (pc : Int) + off = (tgt : Int)) (h : mWm G y d tgt L st M Q) : mWm G y d pc L (vi x :: st) M Q :=
  wm_st (fun p e R s m args below meth c H locs cells slots ls Qf hA hR hL k => lv_tableIn hA.1 hA.2.1 hd (by rw [i32_toInt hx]; omega) (by rw [i32_toInt hx]; omega) (by rw [i32_toInt hx]; exact ho) ht k) h
theorem wm_tableOut {x dflt lo hi : Int} {offs : Array Int} {len : Nat} {tgt : Nat} (hd : decode y.2.1 pc = .ok (.tableswitch dflt lo hi offs, len)) (hx : i32 x) (h1 : x < lo ∨ hi < x) (ht : (pc : Int) + dflt = (tgt : Int)) (h : mWm G y d tgt L st M Q) : mWm G y d pc L (vi x :: st) M Q :=
  wm_st (fun p e R s m args below meth c H locs cells slots ls Qf hA hR hL k => lv_tableOut hA.1 hA.2.1 hd (by rw [i32_toInt hx]; exact h1) ht k) h
theorem wm_tableD {x dflt lo hi : Int} {offs : Array Int} {len : Nat} {off : Int} {tgt : Nat} (hd : decode y.2.1 pc = .ok (.tableswitch dflt lo hi offs, len)) (hx : i32 x) (h1 : (x < lo ∨ hi < x) ∨ (lo ≤ x ∧ x ≤ hi ∧ offs[(x - lo).toNat]? = some dflt)) (ht : (pc : Int) + dflt = (tgt : Int)) (h : mWm G y d tgt L st M Q) : mWm G y d pc L (vi x :: st) M Q := by
  rcases h1 with h1 | ⟨h1, h2, h3⟩
  · exact wm_tableOut hd hx h1 ht h
  · exact wm_tableIn hd hx h1 h2 h3 ht h
/-- a step that changes the stack alone, with the room -/
theorem wm_st2 {pc' : Nat} {st' : List mV} (hs : ∀ (p : Program) (e : Env) (R : Room) (s : State) (m : MethodId) (args : Array Value) (below : List Frame) (meth : Method) (c : Code) (H : Heap) (locs : List Loc) (cells slots : Nat) (ls : Array Slot) (Qf : State → Prop), mAt G y d p R s m args meth c → mRep G M H → mLs ls y.2.2.1 L → cells ≤ R.cells → slots ≤ R.slots → W p (gL G) e R s m args below meth c H locs cells slots Qf (F0 m pc' ls (st'.map mcv)) → W p (gL G) e R s m args below meth c H locs cells slots Qf (F0 m pc ls (st.map mcv))) (h : mWm G y d pc' L st' M Q) : mWm G y d pc L st M Q := by
  obtain ⟨r, M', ⟨h1, h2⟩, h3⟩ := h
  exact ⟨r, M', ⟨h1, fun p e R s m args below meth c H locs cells slots ls hA hR hl hc hs' hL => hs p e R s m args below meth c H locs cells slots ls _ hA hR hL (by omega) (by omega) (h2 p e R s m args below meth c H locs cells slots ls hA hR hl hc hs' hL)⟩, h3⟩
theorem wm_mmax {idx : Nat} {x z : Int} (hw : Cond.methodLink y.1.cls idx Lib.Math.max.name ∈ lw_R) (hs : (st.map mcat).sum ≤ 8) (hx : i32 x) (hz : i32 z) (hd : decode y.2.1 pc = .ok (.invokestatic idx, 3)) (h : mWm G y (d + 1) (pc + 3) L (vi (if x < z then z else x) :: st) M Q) : mWm G y (d + 1) pc L (vi z :: vi x :: st) M Q :=
  wm_st2 (fun p e R s m args below meth c H locs cells slots ls Qf hA hR hL hc hs9 k => by
    obtain ⟨hx9, hb, hml, -, -, -, hown, hKK, hts, hh, hal, hfr, hlo⟩ := hA
    have k' : W p (gL G) e R s m args below meth c H locs cells slots Qf (F0 m (pc + 3) ls (.int (if Int32.ofInt x < Int32.ofInt z then Int32.ofInt z else Int32.ofInt x) :: st.map mcv)) := by
      rw [show (if Int32.ofInt x < Int32.ofInt z then Int32.ofInt z else Int32.ofInt x) = Int32.ofInt (if x < z then z else x) by
        by_cases q : x < z
        · rw [if_pos q, if_pos ((i32_lt hx hz).mpr q)]
        · rw [if_neg q, if_neg (fun w => q ((i32_lt hx hz).mp w))]]
      exact k
    exact va_mmax hx9 hb (hml.trans hL.1.symm) hown (hts _ hw) (hts _ kJ_max_s) (hts _ kJ_math) (hts _ kJ_max_c) (by omega) (by rw [m_cats]; omega) hc hs9 hd k') h
theorem wm_mmin {idx : Nat} {x z : Int} (hw : Cond.methodLink y.1.cls idx Lib.Math.min.name ∈ lw_R) (hs : (st.map mcat).sum ≤ 8) (hx : i32 x) (hz : i32 z) (hd : decode y.2.1 pc = .ok (.invokestatic idx, 3)) (h : mWm G y (d + 1) (pc + 3) L (vi (if z < x then z else x) :: st) M Q) : mWm G y (d + 1) pc L (vi z :: vi x :: st) M Q :=
  wm_st2 (fun p e R s m args below meth c H locs cells slots ls Qf hA hR hL hc hs9 k => by
    obtain ⟨hx9, hb, hml, -, -, -, hown, hKK, hts, hh, hal, hfr, hlo⟩ := hA
    have k' : W p (gL G) e R s m args below meth c H locs cells slots Qf (F0 m (pc + 3) ls (.int (if Int32.ofInt z < Int32.ofInt x then Int32.ofInt z else Int32.ofInt x) :: st.map mcv)) := by
      rw [show (if Int32.ofInt z < Int32.ofInt x then Int32.ofInt z else Int32.ofInt x) = Int32.ofInt (if z < x then z else x) by
        by_cases q : z < x
        · rw [if_pos q, if_pos ((i32_lt hz hx).mpr q)]
        · rw [if_neg q, if_neg (fun w => q ((i32_lt hz hx).mp w))]]
      exact k
    exact va_mmin hx9 hb (hml.trans hL.1.symm) hown (hts _ hw) (hts _ kJ_min_s) (hts _ kJ_math) (hts _ kJ_min_c) (by omega) (by rw [m_cats]; omega) hc hs9 hd k') h
theorem wm_mminl {idx : Nat} {x z : Int} (hw : Cond.methodLink y.1.cls idx Lib.MathLoose.min_long.x ∈ lw_R) (hs : (st.map mcat).sum ≤ 8) (hx : i64 x) (hz : i64 z) (hd : decode y.2.1 pc = .ok (.invokestatic idx, 3)) (h : mWm G y (d + 1) (pc + 3) L (vl (if z < x then z else x) :: st) M Q) : mWm G y (d + 1) pc L (vl z :: vl x :: st) M Q :=
  wm_st2 (fun p e R s m args below meth c H locs cells slots ls Qf hA hR hL hc hs9 k => by
    obtain ⟨hx9, hb, hml, -, -, -, hown, hKK, hts, hh, hal, hfr, hlo⟩ := hA
    have k' : W p (gL G) e R s m args below meth c H locs cells slots Qf (F0 m (pc + 3) ls (.long (if Int64.ofInt z < Int64.ofInt x then Int64.ofInt z else Int64.ofInt x) :: st.map mcv)) := by
      rw [show (if Int64.ofInt z < Int64.ofInt x then Int64.ofInt z else Int64.ofInt x) = Int64.ofInt (if z < x then z else x) by
        by_cases q : z < x
        · rw [if_pos q, if_pos ((i64_lt hz hx).mpr q)]
        · rw [if_neg q, if_neg (fun w => q ((i64_lt hz hx).mp w))]]
      exact k
    exact va_mmin_long hx9 hb (hml.trans hL.1.symm) hown (hts _ hw) (hts _ kJ_minl_s) (hts _ kJ_math) (hts _ kJ_minl_c) (by omega) (by rw [m_cats]; omega) hc hs9 hd k') h
theorem wm_mabsl {idx : Nat} {x : Int} (hw : Cond.methodLink y.1.cls idx Lib.MathLoose.abs_long.x ∈ lw_R) (hs : (st.map mcat).sum ≤ 8) (hx : i64 x) (hd : decode y.2.1 pc = .ok (.invokestatic idx, 3)) (h : mWm G y (d + 1) (pc + 3) L (vl (if 0 < x then x else -x) :: st) M Q) : mWm G y (d + 1) pc L (vl x :: st) M Q :=
  wm_st2 (fun p e R s m args below meth c H locs cells slots ls Qf hA hR hL hc hs9 k => by
    obtain ⟨hx9, hb, hml, -, -, -, hown, hKK, hts, hh, hal, hfr, hlo⟩ := hA
    have k' : W p (gL G) e R s m args below meth c H locs cells slots Qf (F0 m (pc + 3) ls (.long (if 0 < Int64.ofInt x then Int64.ofInt x else -Int64.ofInt x) :: st.map mcv)) := by
      have e0 : (0 : Int64) < Int64.ofInt x ↔ 0 < x := i64_lt (x := 0) ⟨by decide, by decide⟩ hx
      rw [show (if 0 < Int64.ofInt x then Int64.ofInt x else -Int64.ofInt x) = Int64.ofInt (if 0 < x then x else -x) by
        by_cases q : 0 < x
        · rw [if_pos q, if_pos (e0.mpr q)]
        · rw [if_neg q, if_neg (fun w => q (e0.mp w)), Int64.ofInt_neg]]
      exact k
    exact va_mabs_long hx9 hb (hml.trans hL.1.symm) hown (hts _ hw) (hts _ kJ_absl_s) (hts _ kJ_math) (hts _ kJ_absl_c) (by omega) (by rw [m_cats]; omega) hc hs9 hd k') h
/-- the class's primes -/
theorem wm_prLen {idx : Nat} (hw : Cond.fieldLink y.1.cls idx "ChanceArena$Residues" "PRIMES" "[I" ∈ lw_R) (hd : decode y.2.1 pc = .ok (.getstatic idx, 3)) (hd2 : decode y.2.1 (pc + 3) = .ok (.arraylength, 1)) (h : mWm G y d (pc + 4) L (vi 36 :: st) M Q) : mWm G y d pc L st M Q :=
  wm_st (fun p e R s m args below meth co H locs cells slots ls Qf hA hR hL kk => by
    obtain ⟨hx, hb, hml, -, -, -, hown, hKK, hts, hh, hal, -⟩ := hA
    obtain ⟨t, hZ, hT⟩ := hR.2.1.2
    have hq : ∀ a : Nat, a < (gS G).heap.size → ¬ mOwn G a → H[a]? = (gS G).heap[a]? := fun a _ ha => hR.2.2.2.2.1 a (Nat.not_le.mp ha)
    obtain ⟨cf, kf, fi, f, a, cell, h1, h2, h3, h4, h5, h6, h7, h8⟩ := (hZ.moved hal.1).kept hq
    obtain ⟨cell2, g1, g2, g3, g4, g5, g6, g7⟩ := (hT.moved hal.1).kept hq
    refine W.gets hx hb hown (hts _ hw) h1 h2 h3 h4 h5 (fun e => by rw [e] at h6; cases h6) h7 rfl hd ?_
    exact W.alen (n := 36) hx hb g1 g2 g5 rfl rfl hd2 kk) h
theorem wm_prAt {idx : Nat} {i : Int} (hw : Cond.fieldLink y.1.cls idx "ChanceArena$Residues" "PRIMES" "[I" ∈ lw_R) (hd : decode y.2.1 pc = .ok (.getstatic idx, 3)) {k0 : Nat} (hv : L[k0]? = some (vi i)) (hi : 0 ≤ i ∧ i < 36) {ins : Instr} {ln : Nat} (hins : (∃ k9 : Fin 4, (k9 : Nat) = k0 ∧ ins = .iload_n k9 ∧ ln = 1) ∨ (ins = .iload k0 ∧ ln = 2)) (hd2 : decode y.2.1 (pc + 3) = .ok (ins, ln)) (hd3 : decode y.2.1 (pc + 3 + ln) = .ok (.iaload, 1)) (h : mWm G y d (pc + 3 + ln + 1) L (vi (prL.getD i.toNat 0) :: st) M Q) : mWm G y d pc L st M Q :=
  wm_st (fun p e R s m args below meth co H locs cells slots ls Qf hA hR hL kk => by
    obtain ⟨hx, hb, hml, -, -, -, hown, hKK, hts, hh, hal, -⟩ := hA
    obtain ⟨t, hZ, hT⟩ := hR.2.1.2
    have hi3 : i32 i := ⟨by omega, by omega⟩
    have hq : ∀ a : Nat, a < (gS G).heap.size → ¬ mOwn G a → H[a]? = (gS G).heap[a]? := fun a _ ha => hR.2.2.2.2.1 a (Nat.not_le.mp ha)
    obtain ⟨cf, kf, fi, f, a, cell, h1, h2, h3, h4, h5, h6, h7, h8⟩ := (hZ.moved hal.1).kept hq
    obtain ⟨cell2, g1, g2, g3, g4, g5, g6, g7⟩ := (hT.moved hal.1).kept hq
    refine W.gets hx hb hown (hts _ hw) h1 h2 h3 h4 h5 (fun e => by rw [e] at h6; cases h6) h7 rfl hd ?_
    have k2 : W p (gL G) e R s m args below meth co H locs cells slots Qf (F0 m (pc + 3 + ln) ls (.int (Int32.ofInt i) :: .ref t :: st.map mcv)) := W.iald (v := mcv (vi (prL.getD i.toNat 0))) hx hb g1 g2 g3 (by rw [i32_lt0 hi3, i32_clamp hi3]; omega) (by rw [i32_clamp hi3]; exact g6 _ (by omega)) rfl rfl hd3 kk
    rcases hins with ⟨k9, e1, e2, e3⟩ | ⟨e2, e3⟩
    · subst e2; subst e3
      exact lv_iload_n hx hb hd2 e1 (hL.at hv rfl) k2
    · subst e2; subst e3
      exact lv_iload hx hb hd2 (hL.at hv rfl) k2) h
theorem wm_lxor {x z : Int} (hd : decode y.2.1 pc = .ok (.lxor, 1)) (h : mWm G y d (pc + 1) L (vl (xorL x z) :: st) M Q) : mWm G y d pc L (vl z :: vl x :: st) M Q :=
  wm_st (fun p e R s m args below meth c H locs cells slots ls Qf hA hR hL k => by
    have k' : W p (gL G) e R s m args below meth c H locs cells slots Qf (F0 m (pc + 1) ls (.long (Int64.ofInt (xorL x z)) :: st.map mcv)) := k
    rw [show Int64.ofInt (xorL x z) = _ from Int64.ofInt_toInt _] at k'
    exact lv_lxor hA.1 hA.2.1 hd k') h
/-- System.arraycopy, ints or chars -/
theorem wm_copy {idx t a0 a : Nat} {ty : FieldType} {sp dp n : Int} (hty : arTy[t]? = some ty) (hz : ∀ tA, (zT tA)[t]? = some (tA t, ty)) (hfv : ∀ (M : mM) (b j : Nat), fV ty M b j = .int (Int32.ofInt (mI M b j))) (hprim : refKind ty = false) (hw : Cond.methodLink y.1.cls idx arraycopyName ∈ lw_R) (hs : (st.map mcat).sum ≤ 8) (hK0 : mK M a0 = 30 + t) (hK : mK M a = 30 + t) (hb9 : 0 ≤ sp ∧ 0 ≤ dp ∧ 0 ≤ n ∧ sp + n ≤ mN M a0 ∧ dp + n ≤ mN M a) (hfit : ∀ i : Nat, (i : Int) < n → fits ty (.int (Int32.ofInt (mI M a0 (sp.toNat + i)))) = true) (hd : decode y.2.1 pc = .ok (.invokestatic idx, 3)) (e9 : M1 = mCpy M a0 a sp.toNat dp.toNat n.toNat) (h : mWm G y (d + 1) (pc + 3) L st M1 Q) : mWm G y (d + 1) pc L (vi n :: vi dp :: vr a :: vi sp :: vr a0 :: st) M Q := by
  subst e9
  refine wm_wr (M1 := mCpy M a0 a sp.toNat dp.toNat n.toNat) rfl rfl (fun p e R s m args below meth co H locs cells slots ls Qf hA hR hlo hL kk => ?_) h
  obtain ⟨g1, g2, g3⟩ := (hR.2.2.2.2.2.2 a).2.1 t _ hK hty
  obtain ⟨u1, u2, u3⟩ := (hR.2.2.2.2.2.2 a0).2.1 t _ hK0 hty
  obtain ⟨hx, hb, hml, -, -, -, hown, hKK, hts, hh, hal, hfr, hlc⟩ := hA
  have hfe : ∀ b : Nat, (fun j => fV ty M b j) = fun j => Value.int (Int32.ofInt (mI M b j)) := fun b => funext (fun j => hfv M b j)
  rw [hfe] at g3 u3
  show W p (gL G) e R s m args below meth co H locs cells slots Qf (F0 m pc ls (.int (Int32.ofInt n) :: .int (Int32.ofInt dp) :: mcv (vr a) :: .int (Int32.ofInt sp) :: mcv (vr a0) :: st.map mcv))
  rw [hR.own g1, hR.own u1]
  have hsp : i32 sp := ⟨by omega, by omega⟩
  have hdp : i32 dp := ⟨by omega, by omega⟩
  have hn : i32 n := ⟨by omega, by omega⟩
  intro T hT X
  obtain ⟨-, k0, hk0, cm0, hkk0⟩ := (hKK.2 t _ (hz _)).1 (mN M a0) (fun j => Value.int (Int32.ofInt (mI M a0 j)))
  obtain ⟨-, k1, hk1, cm1, hkk1⟩ := (hKK.2 t _ (hz _)).1 (mN M a) (fun j => Value.int (Int32.ofInt (mI M a j)))
  have hl : a < H.size := (Array.getElem?_eq_some_iff.mp g3).1
  obtain ⟨vm', X', step⟩ := X.arraycopy hx hown (hts _ hw) (hts _ kJ_ac_n) (hts _ kJ_ac_s) (hts _ kJ_sys) (src := a0) (dst := a) (cs := arrV (gA G t) (mN M a0) (fun j => Value.int (Int32.ofInt (mI M a0 j)))) (cd := arrV (gA G t) (mN M a) (fun j => Value.int (Int32.ofInt (mI M a j)))) (srcPos := Int32.ofInt sp) (destPos := Int32.ofInt dp) (n := Int32.ofInt n) (by rw [hT]; exact u3) (by rw [hT]; exact g3)
    (fun _ h => by cases h) (fun _ h => by cases h) (fun h => by cases h) (fun h => by cases h) hk0 hk1 hkk0 hkk1 (by simp [hprim]) (by rw [i32_lt0 hsp]; omega) (by rw [i32_lt0 hdp]; omega) (by rw [i32_lt0 hn]; omega)
    (by rw [i32_toInt hsp, i32_toInt hn, arrV_size]; omega)
    (by rw [i32_toInt hdp, i32_toInt hn, arrV_size]; omega)
    (fun vm₁ _ i hi => by
      rw [i32_clamp hn] at hi
      have e : (arrV (gA G t) (mN M a0) (fun j => Value.int (Int32.ofInt (mI M a0 j)))).slots.getD ((Int32.ofInt sp).toNatClampNeg + i) .null = .int (Int32.ofInt (mI M a0 (sp.toNat + i))) := by
        rw [i32_clamp hsp, Array.getD_eq_getD_getElem?, arrV_read _ _ (by omega)]
        rfl
      refine ⟨?_, ?_⟩
      · rw [e]
        exact hfit i (by omega)
      · rw [e]
        exact trivial)
    (g := F0 m pc ls (.int (Int32.ofInt n) :: .int (Int32.ofInt dp) :: .ref a :: .int (Int32.ofInt sp) :: .ref a0 :: st.map mcv)) rfl (by rw [hml]; exact hL.1) (rest := st.map mcv) rfl (by rw [hb]; exact hd) (by omega) (by show 2 * 0 + _ + _ ≤ _; rw [m_cats, show nativeFrameWords "java/lang/System" "arraycopy" 5 = nfw from rfl]; have := nfw_le; omega)
  have e1 := va_copied (fun z => Value.int z) (gA G t) (gA G t) (n0 := mN M a0) (n1 := mN M a) (sp := (Int32.ofInt sp).toNatClampNeg) (dp := (Int32.ofInt dp).toNatClampNeg) (n := (Int32.ofInt n).toNatClampNeg) (fun j => Int32.ofInt (mI M a0 j)) (fun j => Int32.ofInt (mI M a j)) (by rw [i32_clamp hsp, i32_clamp hn]; omega)
  have e1' : copied (arrV (gA G t) (mN M a0) (fun j => Value.int (Int32.ofInt (mI M a0 j)))) (arrV (gA G t) (mN M a) (fun j => Value.int (Int32.ofInt (mI M a j)))) (Int32.ofInt sp) (Int32.ofInt dp) (Int32.ofInt n) = arrV (gA G t) (mN M a) (fun j => fV ty (mCpy M a0 a sp.toNat dp.toNat n.toNat) a j) := by
    refine e1.trans ?_
    congr 1
    funext j
    rw [hfv, i32_clamp hsp, i32_clamp hdp, i32_clamp hn]
    show Value.int (va_cpy _ _ _ _ _ j) = Value.int (Int32.ofInt (if _ then _ else _))
    unfold va_cpy
    by_cases q : dp.toNat ≤ j ∧ j < dp.toNat + n.toNat
    · rw [if_pos q, if_pos ⟨rfl, q⟩]
    · rw [if_neg q, if_neg (fun w => q w.2)]
  rw [e1'] at X' step
  have hheap : ((T.setVm vm').setCell a (arrV (gA G t) (mN M a) (fun j => fV ty (mCpy M a0 a sp.toNat dp.toNat n.toNat) a j))).heap = H.setIfInBounds a (arrV (gA G t) (mN M a) (fun j => fV ty (mCpy M a0 a sp.toNat dp.toNat n.toNat) a j)) := by rw [← hT]; rfl
  have oq : ∀ q : Nat, q ≠ a → (H.setIfInBounds a (arrV (gA G t) (mN M a) (fun j => fV ty (mCpy M a0 a sp.toNat dp.toNat n.toNat) a j)))[q]? = H[q]? := fun q hq => by simp [Array.getElem?_setIfInBounds, Ne.symm hq]
  have hRep : mRep G (mCpy M a0 a sp.toNat dp.toNat n.toNat) (H.setIfInBounds a (arrV (gA G t) (mN M a) (fun j => fV ty (mCpy M a0 a sp.toNat dp.toNat n.toNat) a j))) := by
    obtain ⟨r1, r2, r3, r4, r5, r6, r7⟩ := hR
    have hR : mRep G M H := ⟨r1, r2, r3, r4, r5, r6, r7⟩
    have hlt := arTy_lt hty
    refine ⟨by simp; exact r1, r2, r3, mOk_Cpy r4, fun q hq => by rw [oq q (by omega)]; exact r5 q hq, r6, fun b => ?_⟩
    by_cases hba : b = a
    · subst hba
      refine ⟨fun c' r' t' q1 q2 q3 => ?_, fun t' ty' q1 q2 => ?_, fun q1 => ?_⟩
      · have := vwCl_lt q2
        have q1 : mK M b = c' + 1 := q1
        omega
      · have et : t' = t := by have q1 : mK M b = 30 + t' := q1; omega
        subst et
        have ey : ty' = ty := Option.some.inj (q2.symm.trans hty)
        subst ey
        exact ⟨g1, g2, by simp [Array.getElem?_setIfInBounds, hl]; rfl⟩
      · have q1 : mK M b = 40 := q1
        omega
    · refine hR.keep (oq b hba) rfl rfl (fun ty9 j => ?_)
      unfold fV
      split <;> try rfl
      show mcv (vi (if _ then _ else _)) = _
      rw [if_neg (fun w => hba w.1)]
  obtain ⟨t2, a1, b1⟩ := kk _ _ hRep (fun q hq => by
      rcases List.mem_append.mp hq with h | h
      · exact hlo q h
      · obtain ⟨z, -, hz⟩ := List.mem_map.mp h
        rw [← hz]
        exact g1) _ hheap X'
  exact ⟨t2, step t2 a1, b1⟩
theorem wm_copyi {idx a0 a : Nat} {sp dp n : Int} (hw : Cond.methodLink y.1.cls idx arraycopyName ∈ lw_R) (hs : (st.map mcat).sum ≤ 8) (hK0 : mK M a0 = 30) (hK : mK M a = 30) (hb9 : 0 ≤ sp ∧ 0 ≤ dp ∧ 0 ≤ n ∧ sp + n ≤ mN M a0 ∧ dp + n ≤ mN M a) (hd : decode y.2.1 pc = .ok (.invokestatic idx, 3)) (e9 : M1 = mCpy M a0 a sp.toNat dp.toNat n.toNat) (h : mWm G y (d + 1) (pc + 3) L st M1 Q) : mWm G y (d + 1) pc L (vi n :: vi dp :: vr a :: vi sp :: vr a0 :: st) M Q := wm_copy (t := 0) (ty := .int) rfl (fun _ => rfl) (fun _ _ _ => rfl) rfl hw hs hK0 hK hb9 (fun _ _ => rfl) hd e9 h
theorem wm_copyc {idx a0 a : Nat} {sp dp n : Int} (hw : Cond.methodLink y.1.cls idx arraycopyName ∈ lw_R) (hs : (st.map mcat).sum ≤ 8) (hK0 : mK M a0 = 32) (hK : mK M a = 32) (hb9 : 0 ≤ sp ∧ 0 ≤ dp ∧ 0 ≤ n ∧ sp + n ≤ mN M a0 ∧ dp + n ≤ mN M a) (hfit : ∀ i : Nat, (i : Int) < n → 0 ≤ mI M a0 (sp.toNat + i) ∧ mI M a0 (sp.toNat + i) < 65536) (hd : decode y.2.1 pc = .ok (.invokestatic idx, 3)) (e9 : M1 = mCpy M a0 a sp.toNat dp.toNat n.toNat) (h : mWm G y (d + 1) (pc + 3) L st M1 Q) : mWm G y (d + 1) pc L (vi n :: vi dp :: vr a :: vi sp :: vr a0 :: st) M Q := wm_copy (t := 2) (ty := .char) rfl (fun _ => rfl) (fun _ _ _ => rfl) rfl hw hs hK0 hK hb9 (fun i hi => by
    obtain ⟨h1, h2⟩ := hfit i hi
    have e : Int32.ofInt (mI M a0 (sp.toNat + i)) = nI (mI M a0 (sp.toNat + i)).toNat := by
      rw [← Int32.toInt_inj, i32_toInt ⟨by omega, by omega⟩, nI_toInt (by omega)]
      omega
    rw [e]
    exact (pk_charN (by omega)).2) hd e9 h
end JRules
/-- the keys of a switch rise -/
def lkS (ps : Array (Int × Int)) : Prop := (ps.toList.zip (ps.toList.drop 1)).all (fun (a, next) => a.1 < next.1) = true
