/-! THE FLAT MACHINE: values are whole numbers and addresses, the heap is flat (kind, length, ints, longs, references by address and place); an exact run of a method is a proposition (mEv), and what a run must come to is asked of it backwards (mWm). -/
abbrev mV : Type := Int ⊕ Int ⊕ Nat ⊕ Option Nat
abbrev vi (x : Int) : mV := Sum.inl x
abbrev vl (x : Int) : mV := Sum.inr (Sum.inl x)
abbrev vr (a : Nat) : mV := Sum.inr (Sum.inr (Sum.inl a))
abbrev vd : mV := Sum.inr (Sum.inr (Sum.inr none))
/-- a reference to an old cell (a string, the law's array): it may be address 0 -/
abbrev vo (a : Nat) : mV := Sum.inr (Sum.inr (Sum.inr (some a)))
def mrv (a : Nat) : Value := if a = 0 then .null else .ref a
def mcv : mV → Value
  | .inl x => .int (Int32.ofInt x)
  | .inr (.inl x) => .long (Int64.ofInt x)
  | .inr (.inr (.inl a)) => mrv a
  | .inr (.inr (.inr none)) => .null
  | .inr (.inr (.inr (some a))) => .ref a
def mLive : mV → Bool
  | .inr (.inr (.inr none)) => false
  | _ => true
def mcat : mV → Nat
  | .inr (.inl _) => 2
  | _ => 1
theorem mcat_mcv (v : mV) : (mcv v).category = mcat v := by
  rcases v with x | x | a | u
  · rfl
  · rfl
  · show (mrv a).category = 1
    unfold mrv
    split <;> rfl
  · cases u <;> rfl
def i32 (x : Int) : Prop := -2147483648 ≤ x ∧ x < 2147483648
def i64 (x : Int) : Prop := -9223372036854775808 ≤ x ∧ x < 9223372036854775808
theorem i32_toInt {x : Int} (h : i32 x) : (Int32.ofInt x).toInt = x := by
  obtain ⟨h1, h2⟩ := h
  rw [Int32.toInt_ofInt, show Int32.size = 4294967296 from rfl]
  exact Int.bmod_eq_of_le (by omega) (by omega)
theorem i64_toInt {x : Int} (h : i64 x) : (Int64.ofInt x).toInt = x := by
  obtain ⟨h1, h2⟩ := h
  rw [Int64.toInt_ofInt, show Int64.size = 18446744073709551616 from rfl]
  exact Int.bmod_eq_of_le (by omega) (by omega)
theorem i32_lt {x y : Int} (hx : i32 x) (hy : i32 y) : Int32.ofInt x < Int32.ofInt y ↔ x < y := by
  rw [Int32.lt_iff_toInt_lt, i32_toInt hx, i32_toInt hy]
theorem i32_le {x y : Int} (hx : i32 x) (hy : i32 y) : Int32.ofInt x ≤ Int32.ofInt y ↔ x ≤ y := by
  rw [Int32.le_iff_toInt_le, i32_toInt hx, i32_toInt hy]
theorem i32_eq {x y : Int} (hx : i32 x) (hy : i32 y) : Int32.ofInt x = Int32.ofInt y ↔ x = y := by
  rw [← Int32.toInt_inj, i32_toInt hx, i32_toInt hy]
theorem i64_lt {x y : Int} (hx : i64 x) (hy : i64 y) : Int64.ofInt x < Int64.ofInt y ↔ x < y := by
  rw [Int64.lt_iff_toInt_lt, i64_toInt hx, i64_toInt hy]
theorem i64_eq {x y : Int} (hx : i64 x) (hy : i64 y) : Int64.ofInt x = Int64.ofInt y ↔ x = y := by
  rw [← Int64.toInt_inj, i64_toInt hx, i64_toInt hy]
theorem i32_clamp {x : Int} (h : i32 x) : (Int32.ofInt x).toNatClampNeg = x.toNat := by
  show (Int32.ofInt x).toInt.toNat = x.toNat
  rw [i32_toInt h]
theorem i32_0 : i32 0 := ⟨by decide, by decide⟩
theorem i32_lt0 {x : Int} (hx : i32 x) : Int32.ofInt x < 0 ↔ x < 0 := i32_lt hx i32_0
theorem i32_gt0 {x : Int} (hx : i32 x) : 0 < Int32.ofInt x ↔ 0 < x := i32_lt i32_0 hx
theorem i32_le0 {x : Int} (hx : i32 x) : Int32.ofInt x ≤ 0 ↔ x ≤ 0 := i32_le hx i32_0
theorem i32_ge0 {x : Int} (hx : i32 x) : 0 ≤ Int32.ofInt x ↔ 0 ≤ x := i32_le i32_0 hx
theorem i32_eq0 {x : Int} (hx : i32 x) : Int32.ofInt x = 0 ↔ x = 0 := i32_eq hx i32_0
/-- the index lies in an array of n places -/
theorem i32_in {x : Int} {n : Nat} (h : 0 ≤ x ∧ x < n) (hn : n < 2147483648) : ¬ (Int32.ofInt x < 0 ∨ n ≤ (Int32.ofInt x).toNatClampNeg) := by
  have hx : i32 x := ⟨by omega, by omega⟩
  rw [i32_lt0 hx, i32_clamp hx]
  omega
/-! the heap -/
abbrev mM : Type := (Nat → Nat) × (Nat → Nat) × (Nat → Nat → Int) × (Nat → Nat → Int) × (Nat → Nat → Nat) × Nat × Nat
def mK (M : mM) : Nat → Nat := M.1
def mN (M : mM) : Nat → Nat := M.2.1
def mI (M : mM) : Nat → Nat → Int := M.2.2.1
def mL (M : mM) : Nat → Nat → Int := M.2.2.2.1
def mR (M : mM) : Nat → Nat → Nat := M.2.2.2.2.1
def mZ (M : mM) : Nat := M.2.2.2.2.2.1
def mS (M : mM) : Nat := M.2.2.2.2.2.2
def up2 {α : Type} (f : Nat → Nat → α) (a j : Nat) (x : α) : Nat → Nat → α := fun b k => if b = a ∧ k = j then x else f b k
def mUI (M : mM) (a j : Nat) (x : Int) : mM := (mK M, mN M, up2 (mI M) a j x, mL M, mR M, mZ M, mS M)
def mUL (M : mM) (a j : Nat) (x : Int) : mM := (mK M, mN M, mI M, up2 (mL M) a j x, mR M, mZ M, mS M)
def mUR (M : mM) (a j : Nat) (x : Nat) : mM := (mK M, mN M, mI M, mL M, up2 (mR M) a j x, mZ M, mS M)
def mNew (M : mM) (k n c : Nat) : mM := (fun b => if b = mZ M then k else mK M b, fun b => if b = mZ M then n else mN M b, fun b j => if b = mZ M then 0 else mI M b j, fun b j => if b = mZ M then 0 else mL M b j, fun b j => if b = mZ M then 0 else mR M b j, mZ M + 1, mS M + c)
section Reads
variable (M : mM) (a j b k n c : Nat) (x : Int) (r : Nat)
theorem mK_UI : mK (mUI M a j x) = mK M := rfl
theorem mN_UI : mN (mUI M a j x) = mN M := rfl
theorem mI_UI : mI (mUI M a j x) b k = if b = a ∧ k = j then x else mI M b k := rfl
theorem mL_UI : mL (mUI M a j x) = mL M := rfl
theorem mR_UI : mR (mUI M a j x) = mR M := rfl
theorem mZ_UI : mZ (mUI M a j x) = mZ M := rfl
theorem mS_UI : mS (mUI M a j x) = mS M := rfl
theorem mL_UL : mL (mUL M a j x) b k = if b = a ∧ k = j then x else mL M b k := rfl
theorem mK_UR : mK (mUR M a j r) = mK M := rfl
theorem mN_UR : mN (mUR M a j r) = mN M := rfl
theorem mI_UR : mI (mUR M a j r) = mI M := rfl
theorem mL_UR : mL (mUR M a j r) = mL M := rfl
theorem mR_UR : mR (mUR M a j r) b k = if b = a ∧ k = j then r else mR M b k := rfl
theorem mZ_UR : mZ (mUR M a j r) = mZ M := rfl
theorem mS_UR : mS (mUR M a j r) = mS M := rfl
theorem mK_New : mK (mNew M k n c) b = if b = mZ M then k else mK M b := rfl
theorem mN_New : mN (mNew M k n c) b = if b = mZ M then n else mN M b := rfl
theorem mI_New : mI (mNew M k n c) b j = if b = mZ M then 0 else mI M b j := rfl
theorem mL_New : mL (mNew M k n c) b j = if b = mZ M then 0 else mL M b j := rfl
theorem mR_New : mR (mNew M k n c) b j = if b = mZ M then 0 else mR M b j := rfl
theorem mZ_New : mZ (mNew M k n c) = mZ M + 1 := rfl
theorem mS_New : mS (mNew M k n c) = mS M + c := rfl
end Reads
/-- all numbers of the heap are ints, or longs -/
def mOk (M : mM) : Prop := ∀ a j, i32 (mI M a j) ∧ i64 (mL M a j)
def fV (ty : FieldType) (M : mM) (a k : Nat) : Value := match ty with
  | .long => mcv (vl (mL M a k))
  | .object _ => mrv (mR M a k)
  | .array _ => mrv (mR M a k)
  | _ => mcv (vi (mI M a k))
def vwTy : List (Nat → FieldType) := [t_CA, t_Wo, t_TR, t_RR, t_Ma, t_Pr, t_Ga, t_So, t_Sc, t_Na, t_Fr, t_Re, t_Fs, t_MM, t_MN, t_MG, t_MS, t_MU, t_MF, t_MW]
def arTy : List FieldType := [.int, .boolean, .char, .long, .object "ChanceArena$Natural", .object "ChanceArena$Fraction", .object "ChanceArenaModel$Fraction"]
/-- launch, classes, array classes, the law's start, where its own cells begin -/
abbrev mG : Type := Launch × va_G × (Nat → ClassId) × State × Nat
def gL (G : mG) : Launch := G.1
def gD (G : mG) : va_G := G.2.1
def gA (G : mG) : Nat → ClassId := G.2.2.1
def gS (G : mG) : State := G.2.2.2.1
def gB (G : mG) : Nat := G.2.2.2.2
/-- the class's table of primes -/
def prL : List Int := [1073741789, 1073741783, 1073741741, 1073741723, 1073741719, 1073741717, 1073741689, 1073741671, 1073741663, 1073741651, 1073741621, 1073741567, 1073741561, 1073741527, 1073741503, 1073741477, 1073741467, 1073741441, 1073741419, 1073741399, 1073741387, 1073741381, 1073741371, 1073741329, 1073741311, 1073741309, 1073741287, 1073741237, 1073741213, 1073741197, 1073741189, 1073741173, 1073741101, 1073741077, 1073741047, 1073740963]
def mOwn (G : mG) : Addr → Prop := fun q => gB G ≤ q
def gPr (G : mG) : Prop := ∃ t : Nat, va_Z "ChanceArena$Residues" "PRIMES" "[I" (.ref t) (mOwn G) (gS G) (gS G).heap ∧ va_T .int t 36 (fun j => .int (Int32.ofInt (prL.getD j 0))) (mOwn G) (gS G) (gS G).heap
def mRepO (G : mG) (M : mM) (H : Heap) (a : Nat) : Prop := ∀ (c : Nat) (r : vw_C) (t : Nat → FieldType), mK M a = c + 1 → vwCl[c]? = some r → vwTy[c]? = some t → gB G ≤ a ∧ t_OB a ((gD G).1 c) r.2.2 ((gD G).2 c) H (fun k => fV (t k) M a k)
def mRepA (G : mG) (M : mM) (H : Heap) (a : Nat) : Prop := ∀ (t : Nat) (ty : FieldType), mK M a = 30 + t → arTy[t]? = some ty → gB G ≤ a ∧ mN M a < 2147483648 ∧ H[a]? = some (arrV (gA G t) (mN M a) (fun j => fV ty M a j))
/-- old arrays of ints, only read -/
def mRepP (G : mG) (M : mM) (H : Heap) (a : Nat) : Prop := mK M a = 40 → a < gB G ∧ mN M a < 2147483648 ∧ ∃ cell : Cell, H[a]? = some cell ∧ (gS G).isArrayOf cell .int ∧ cell.vm ≠ .unknown ∧ cell.slots.size = mN M a ∧ ∀ j, j < mN M a → cell.slots[j]? = some (mcv (vi (mI M a j)))
def mRep (G : mG) (M : mM) (H : Heap) : Prop :=
  H.size = mZ M ∧ (0 < gB G ∧ gPr G) ∧ gB G ≤ mZ M ∧ mOk M ∧ (∀ q, q < gB G → H[q]? = (gS G).heap[q]?) ∧ (∀ a, mZ M ≤ a → mK M a = 0) ∧ ∀ a, mRepO G M H a ∧ mRepA G M H a ∧ mRepP G M H a
/-- a method: its name, code, locals, answer -/
abbrev mY : Type := MethodName × ByteArray × Nat × Option FieldType
abbrev yC (y : mY) : Cond := Cond.code y.1 y.2.1 y.2.2.1 y.2.2.2
/-- the tables are those of the law's start, but warmer; its string constants lie where they lay -/
def mAl (G : mG) (U : State) : Prop := (gS G).vm.Alike U.vm ∧ ∀ (own : String) (k : Nat) (tx : String) (a : Nat), vk_R own k tx a (gS G) → vk_R own k tx a U
theorem mAl.moved {G : mG} {s U : State} (h : mAl G s) (hW : s.WarmedH U.vm) : mAl G U := ⟨h.1.trans hW.alike, fun own k tx a q => vk_R.warm hW (h.2 own k tx a q)⟩
def mPre (G : mG) (M : mM) (U : State) : Prop := mRep G M U.heap ∧ va_K (gD G) vwCl (zT (gA G)) U ∧ zH U ∧ mAl G U
def mQ (G : mG) (r : Option mV) (M' : mM) : Array Value → State → Outcome → State → Prop := fun _ _ oc t => oc = .returned (r.map mcv) ∧ mRep G M' t.heap
/-- the contract of an exact run -/
def mCl (G : mG) (y : mY) (d : Nat) (args : List mV) (M : mM) (r : Option mV) (M' : mM) : Prop :=
  (mZ M ≤ mZ M' ∧ mS M ≤ mS M') ∧ Met (gL G) y.1 (zW (yC y)) { frames := d, cells := mZ M' - mZ M, slots := mS M' - mS M, locals := 64 * d } (va_Pc (args.map mcv) (mPre G M)) (mQ G r M') (mZ M' - mZ M) (mS M' - mS M) (mOwn G)
/-- the place in which a method's instructions run -/
def mAt (G : mG) (y : mY) (d : Nat) (p : Program) (R : Room) (s : State) (m : MethodId) (args : Array Value) (meth : Method) (c : Code) : Prop :=
  p.tables.exec = Jvm.exec ∧ c.code = y.2.1 ∧ c.maxLocals = y.2.2.1 ∧ meth.sig.returnType = y.2.2.2 ∧ meth.locks = false ∧ meth.name = y.1.name ∧ s.vm.findClass y.1.cls = some m.cls ∧ va_K (gD G) vwCl (zT (gA G)) s ∧ (∀ w ∈ lw_R, w.before args s = true) ∧ zH s ∧ mAl G s ∧ d ≤ R.frames ∧ 64 * d ≤ R.locals
def mLs (ls : Array Slot) (nL : Nat) (L : List mV) : Prop := ls.size = nL ∧ lv_wf ls ∧ ∀ (i : Nat) (v : mV), L[i]? = some v → mLive v = true → ls[i]? = some (.val (mcv v))
def mEv (G : mG) (y : mY) (d pc : Nat) (L st : List mV) (M : mM) (r : Option mV) (M' : mM) : Prop :=
  (mZ M ≤ mZ M' ∧ mS M ≤ mS M') ∧
  ∀ (p : Program) (e : Env) (R : Room) (s : State) (m : MethodId) (args : Array Value) (below : List Frame) (meth : Method) (c : Code) (H : Heap) (locs : List Loc) (cells slots : Nat) (ls : Array Slot),
    mAt G y d p R s m args meth c → mRep G M H → (∀ q ∈ locs, mOwn G q.base) → cells + (mZ M' - mZ M) ≤ R.cells → slots + (mS M' - mS M) ≤ R.slots → mLs ls y.2.2.1 L →
    W p (gL G) e R s m args below meth c H locs cells slots (MQ below (mQ G r M') args s (cells + (mZ M' - mZ M)) (slots + (mS M' - mS M)) (mOwn G)) (F0 m pc ls (st.map mcv))
def mWm (G : mG) (y : mY) (d pc : Nat) (L st : List mV) (M : mM) (Q : Option mV → mM → Prop) : Prop := ∃ r M', mEv G y d pc L st M r M' ∧ Q r M'
def mCm (G : mG) (y : mY) (d : Nat) (args : List mV) (M : mM) (Q : Option mV → mM → Prop) : Prop := ∃ r M', mCl G y d args M r M' ∧ Q r M'
theorem mCm.mono {G : mG} {y : mY} {d : Nat} {args : List mV} {M : mM} {Q Q' : Option mV → mM → Prop} (h : mCm G y d args M Q) (hq : ∀ r M', Q r M' → Q' r M') : mCm G y d args M Q' := by
  obtain ⟨r, M', h1, h2⟩ := h
  exact ⟨r, M', h1, hq r M' h2⟩
theorem mWm.mono {G : mG} {y : mY} {d pc : Nat} {L st : List mV} {M : mM} {Q Q' : Option mV → mM → Prop} (h : mWm G y d pc L st M Q) (hq : ∀ r M', Q r M' → Q' r M') : mWm G y d pc L st M Q' := by
  obtain ⟨r, M', h1, h2⟩ := h
  exact ⟨r, M', h1, hq r M' h2⟩
/-! locals -/
def mTo (L : List mV) : List (Nat × Value) := (L.zipIdx.filter (fun q => mLive q.1)).map (fun q => (q.2, mcv q.1))
theorem mTo_mem {L : List mV} {q : Nat × Value} : q ∈ mTo L ↔ ∃ v, L[q.1]? = some v ∧ mLive v = true ∧ q.2 = mcv v := by
  unfold mTo
  constructor
  · intro h
    obtain ⟨⟨v, i⟩, h1, h2⟩ := List.mem_map.mp h
    obtain ⟨h3, h4⟩ := List.mem_filter.mp h1
    subst h2
    exact ⟨v, List.mem_zipIdx_iff_getElem?.mp h3, h4, rfl⟩
  · rintro ⟨v, h1, h2, h3⟩
    refine List.mem_map.mpr ⟨(v, q.1), List.mem_filter.mpr ⟨List.mem_zipIdx_iff_getElem?.mpr h1, h2⟩, ?_⟩
    exact Prod.ext rfl h3.symm
theorem mLs.has {ls : Array Slot} {nL : Nat} {L : List mV} (h : mLs ls nL L) : lv_has ls nL (mTo L) := by
  refine ⟨h.1, h.2.1, fun q hq => ?_⟩
  obtain ⟨v, h1, h2, h3⟩ := mTo_mem.mp hq
  rw [h3]
  exact h.2.2 _ v h1 h2
theorem mLs.at {ls : Array Slot} {nL : Nat} {L : List mV} (h : mLs ls nL L) {i : Nat} {v : mV} (hv : L[i]? = some v) (hl : mLive v = true) : ls[i]? = some (.val (mcv v)) := h.2.2 i v hv hl
/-- a long that stands just ahead is gone -/
def mKill (L : List mV) : Nat → List mV
  | 0 => L
  | j + 1 => match L[j]? with
    | some (.inr (.inl _)) => L.set j vd
    | _ => L
def mSto (L : List mV) (i : Nat) (x : mV) : List mV := (mKill L i).set i x
def mSto2 (L : List mV) (i : Nat) (x : mV) : List mV := ((mKill L i).set i x).set (i + 1) vd
theorem mKill_at {L : List mV} {i j : Nat} {v : mV} (h : (mKill L i)[j]? = some v) (hl : mLive v = true) : L[j]? = some v ∧ ¬ (j + 1 = i ∧ mcat v = 2) := by
  cases i with
  | zero => exact ⟨h, by omega⟩
  | succ k =>
    simp only [mKill] at h
    split at h
    · by_cases hj : k = j
      · subst hj
        rw [List.getElem?_set] at h
        simp only [if_true] at h
        split at h
        · have h2 := Option.some.inj h
          subst h2
          cases hl
        · cases h
      · rw [List.getElem?_set_ne hj] at h
        exact ⟨h, by omega⟩
    · refine ⟨h, fun q => ?_⟩
      obtain ⟨q1, q2⟩ := q
      have hj : j = k := by omega
      subst hj
      rcases v with x | x | a | u
      · cases q2
      · rename_i h9; exact h9 x h
      · cases q2
      · cases q2
theorem mLs.sto {ls' : Array Slot} {nL : Nat} {L : List mV} {i : Nat} {x : mV} (h : lv_has ls' nL ((i, mcv x) :: (mTo L).filter (fun q => !(q.1 == i) && !(q.1 + 1 == i && q.2.category == 2)))) : mLs ls' nL (mSto L i x) := by
  refine ⟨h.1, h.2.1, fun j v hj hl => ?_⟩
  by_cases e : i = j
  · subst e
    unfold mSto at hj
    rw [List.getElem?_set] at hj
    simp only [if_true] at hj
    split at hj
    · have h2 := Option.some.inj hj
      subst h2
      exact h.2.2 (i, mcv x) List.mem_cons_self
    · cases hj
  · unfold mSto at hj
    rw [List.getElem?_set_ne e] at hj
    obtain ⟨h1, h2⟩ := mKill_at hj hl
    refine h.2.2 (j, mcv v) (List.mem_cons_of_mem _ (List.mem_filter.mpr ⟨mTo_mem.mpr ⟨v, h1, hl, rfl⟩, ?_⟩))
    have e2 : (j == i) = false := by simp; omega
    simp only [e2, mcat_mcv, Bool.not_false, Bool.true_and, Bool.not_eq_true', Bool.and_eq_false_iff, beq_eq_false_iff_ne]
    by_cases e3 : j + 1 = i
    · exact Or.inr (fun q => h2 ⟨e3, q⟩)
    · exact Or.inl e3
theorem mLs.sto2 {ls' : Array Slot} {nL : Nat} {L : List mV} {i : Nat} {x : mV} (h : lv_has ls' nL ((i, mcv x) :: (mTo L).filter (fun q => !(q.1 == i) && (!(q.1 == i + 1) && !(q.1 + 1 == i && q.2.category == 2))))) : mLs ls' nL (mSto2 L i x) := by
  refine ⟨h.1, h.2.1, fun j v hj hl => ?_⟩
  unfold mSto2 at hj
  by_cases e0 : i + 1 = j
  · subst e0
    rw [List.getElem?_set] at hj
    simp only [if_true] at hj
    split at hj
    · have h2 := Option.some.inj hj
      subst h2
      cases hl
    · cases hj
  rw [List.getElem?_set_ne e0] at hj
  by_cases e : i = j
  · subst e
    rw [List.getElem?_set] at hj
    simp only [if_true] at hj
    split at hj
    · have h2 := Option.some.inj hj
      subst h2
      exact h.2.2 (i, mcv x) List.mem_cons_self
    · cases hj
  · rw [List.getElem?_set_ne e] at hj
    obtain ⟨h1, h2⟩ := mKill_at hj hl
    refine h.2.2 (j, mcv v) (List.mem_cons_of_mem _ (List.mem_filter.mpr ⟨mTo_mem.mpr ⟨v, h1, hl, rfl⟩, ?_⟩))
    have e2 : (j == i) = false := by simp; omega
    have e4 : (j == i + 1) = false := by simp; omega
    simp only [e2, e4, mcat_mcv, Bool.not_false, Bool.true_and, Bool.not_eq_true', Bool.and_eq_false_iff, beq_eq_false_iff_ne]
    by_cases e3 : j + 1 = i
    · exact Or.inr (fun q => h2 ⟨e3, q⟩)
    · exact Or.inl e3
/-- fewer locals -/
def mLe : List mV → List mV → Prop
  | [], _ => True
  | _ :: _, [] => False
  | x :: xs, z :: zs => (x = vd ∨ x = z) ∧ mLe xs zs
theorem mLe_at : ∀ (L' L : List mV), mLe L' L → ∀ (i : Nat) (v : mV), L'[i]? = some v → mLive v = true → L[i]? = some v
  | [], _, _, i, v, h, _ => by simp at h
  | _ :: _, [], h, _, _, _, _ => False.elim h
  | x :: xs, z :: zs, h, 0, v, hi, hl => by
    have e : x = v := by simpa using hi
    subst e
    rcases h.1 with e | e
    · subst e; cases hl
    · subst e; rfl
  | x :: xs, z :: zs, h, i + 1, v, hi, hl => by
    have hi : xs[i]? = some v := by simpa using hi
    have := mLe_at xs zs h.2 i v hi hl
    simpa using this
theorem mLs.less {ls : Array Slot} {nL : Nat} {L L' : List mV} (h : mLs ls nL L) (hle : mLe L' L) : mLs ls nL L' := ⟨h.1, h.2.1, fun i v hv hl => h.2.2 i v (mLe_at L' L hle i v hv hl) hl⟩
/-- the locals at a method's start -/
def mEnt : List mV → List mV
  | [] => []
  | .inr (.inl x) :: vs => vl x :: vd :: mEnt vs
  | v :: vs => v :: mEnt vs
theorem mEnt_args : ∀ (vs : List mV) (i0 i : Nat) (v : mV), (mEnt vs)[i]? = some v → mLive v = true → (i0 + i, mcv v) ∈ lv_args i0 (vs.map mcv)
  | [], i0, i, v, h, _ => by simp [mEnt] at h
  | .inl x :: vs, i0, 0, v, h, _ => by
    have e : Sum.inl x = v := by simpa [mEnt] using h
    subst e
    exact List.mem_cons_self
  | .inl x :: vs, i0, i + 1, v, h, hl => by
    have h : (mEnt vs)[i]? = some v := by simpa [mEnt] using h
    have := mEnt_args vs (i0 + 1) i v h hl
    refine List.mem_cons_of_mem _ ?_
    have e : i0 + (i + 1) = i0 + 1 + i := by omega
    rw [e]
    exact this
  | .inr (.inr (.inl a)) :: vs, i0, 0, v, h, _ => by
    have e : vr a = v := by simpa [mEnt] using h
    subst e
    exact List.mem_cons_self
  | .inr (.inr (.inl a)) :: vs, i0, i + 1, v, h, hl => by
    have h : (mEnt vs)[i]? = some v := by simpa [mEnt] using h
    have h2 := mEnt_args vs (i0 + 1) i v h hl
    refine List.mem_cons_of_mem _ ?_
    have e : i0 + (i + 1) = i0 + 1 + i := by omega
    rw [e, show (mcv (Sum.inr (Sum.inr (Sum.inl a)))).category = 1 from mcat_mcv _]
    exact h2
  | .inr (.inr (.inr u)) :: vs, i0, 0, v, h, hl => by
    have e : Sum.inr (Sum.inr (Sum.inr u)) = v := by simpa [mEnt] using h
    subst e
    exact List.mem_cons_self
  | .inr (.inr (.inr u)) :: vs, i0, i + 1, v, h, hl => by
    have h : (mEnt vs)[i]? = some v := by simpa [mEnt] using h
    have h2 := mEnt_args vs (i0 + 1) i v h hl
    refine List.mem_cons_of_mem _ ?_
    have e : i0 + (i + 1) = i0 + 1 + i := by omega
    rw [e, show (mcv (Sum.inr (Sum.inr (Sum.inr u)))).category = 1 from mcat_mcv _]
    exact h2
  | .inr (.inl x) :: vs, i0, 0, v, h, _ => by
    have e : vl x = v := by simpa [mEnt] using h
    subst e
    exact List.mem_cons_self
  | .inr (.inl x) :: vs, i0, 1, v, h, hl => by
    have e : vd = v := by simpa [mEnt] using h
    subst e
    cases hl
  | .inr (.inl x) :: vs, i0, i + 2, v, h, hl => by
    have h : (mEnt vs)[i]? = some v := by simpa [mEnt] using h
    have h2 := mEnt_args vs (i0 + 2) i v h hl
    refine List.mem_cons_of_mem _ ?_
    have e : i0 + (i + 2) = i0 + 2 + i := by omega
    rw [e]
    exact h2
