/-! THE FLAT MACHINE'S RULES: an instruction, a rule. -/
def shlI (x s : Int) : Int := (Int32.ofInt x <<< (Int32.ofInt s &&& 31)).toInt
def shrI (x s : Int) : Int := (Int32.ofInt x >>> (Int32.ofInt s &&& 31)).toInt
def ushrI (x s : Int) : Int := ((Int32.ofInt x).toUInt32 >>> ((Int32.ofInt s).toUInt32 &&& Int32.toUInt32 31)).toInt32.toInt
def andI (x z : Int) : Int := (Int32.ofInt x &&& Int32.ofInt z).toInt
def orI (x z : Int) : Int := (Int32.ofInt x ||| Int32.ofInt z).toInt
def xorI (x z : Int) : Int := (Int32.ofInt x ^^^ Int32.ofInt z).toInt
def shlL (x s : Int) : Int := (Int64.ofInt x <<< ((Int32.ofInt s).toInt64 &&& 63)).toInt
def shrL (x s : Int) : Int := (Int64.ofInt x >>> ((Int32.ofInt s).toInt64 &&& 63)).toInt
def ushrL (x s : Int) : Int := ((Int64.ofInt x).toUInt64 >>> ((Int32.ofInt s).toInt64.toUInt64 &&& Int64.toUInt64 63)).toInt64.toInt
def andL (x z : Int) : Int := (Int64.ofInt x &&& Int64.ofInt z).toInt
def i2cI (x : Int) : Int := ((Int32.ofInt x).toUInt32 % 65536).toInt32.toInt
def cmpL (x z : Int) : Int := if z < x then 1 else if x = z then 0 else -1
section Rules
variable {G : mG} {y : mY} {d pc : Nat} {L st : List mV} {M : mM} {Q : Option mV → mM → Prop}
/-- a step that changes the place, the stack and the locals alone -/
theorem wm_ls {pc' : Nat} {L' st' : List mV} (hs : ∀ (p : Program) (e : Env) (R : Room) (s : State) (m : MethodId) (args : Array Value) (below : List Frame) (meth : Method) (c : Code) (H : Heap) (locs : List Loc) (cells slots : Nat) (ls : Array Slot) (Qf : State → Prop), mAt G y d p R s m args meth c → mRep G M H → mLs ls y.2.2.1 L → (∀ ls' : Array Slot, mLs ls' y.2.2.1 L' → W p (gL G) e R s m args below meth c H locs cells slots Qf (F0 m pc' ls' (st'.map mcv))) → W p (gL G) e R s m args below meth c H locs cells slots Qf (F0 m pc ls (st.map mcv))) (h : mWm G y d pc' L' st' M Q) : mWm G y d pc L st M Q := by
  obtain ⟨r, M', ⟨h1, h2⟩, h3⟩ := h
  exact ⟨r, M', ⟨h1, fun p e R s m args below meth c H locs cells slots ls hA hR hl hc hs' hL => hs p e R s m args below meth c H locs cells slots ls _ hA hR hL (fun ls' hL' => h2 p e R s m args below meth c H locs cells slots ls' hA hR hl hc hs' hL')⟩, h3⟩
/-- a step that changes the place and the stack alone -/
theorem wm_st {pc' : Nat} {st' : List mV} (hs : ∀ (p : Program) (e : Env) (R : Room) (s : State) (m : MethodId) (args : Array Value) (below : List Frame) (meth : Method) (c : Code) (H : Heap) (locs : List Loc) (cells slots : Nat) (ls : Array Slot) (Qf : State → Prop), mAt G y d p R s m args meth c → mRep G M H → mLs ls y.2.2.1 L → W p (gL G) e R s m args below meth c H locs cells slots Qf (F0 m pc' ls (st'.map mcv)) → W p (gL G) e R s m args below meth c H locs cells slots Qf (F0 m pc ls (st.map mcv))) (h : mWm G y d pc' L st' M Q) : mWm G y d pc L st M Q :=
  wm_ls (fun p e R s m args below meth c H locs cells slots ls Qf hA hR hL k => hs p e R s m args below meth c H locs cells slots ls Qf hA hR hL (k ls hL)) h
theorem wm_less {L' : List mV} (hle : mLe L' L) (h : mWm G y d pc L' st M Q) : mWm G y d pc L st M Q :=
  wm_ls (fun p e R s m args below meth c H locs cells slots ls Qf hA hR hL k => k ls (hL.less hle)) h

theorem wm_iconst {n : Int} (hd : decode y.2.1 pc = .ok (.iconst n, 1)) (h : mWm G y d (pc + 1) L (vi n :: st) M Q) : mWm G y d pc L st M Q := wm_st (fun p e R s m args below meth c H locs cells slots ls Qf hA hR hL k => lv_iconst hA.1 hA.2.1 hd rfl k) h
theorem wm_bipush {n : Int} (hd : decode y.2.1 pc = .ok (.bipush n, 2)) (hv : (Int8.ofInt n).toInt32 = Int32.ofInt n) (h : mWm G y d (pc + 2) L (vi n :: st) M Q) : mWm G y d pc L st M Q := wm_st (fun p e R s m args below meth c H locs cells slots ls Qf hA hR hL k => lv_bipush hA.1 hA.2.1 hd hv k) h
theorem wm_sipush {n : Int} (hd : decode y.2.1 pc = .ok (.sipush n, 3)) (hv : (Int16.ofInt n).toInt32 = Int32.ofInt n) (h : mWm G y d (pc + 3) L (vi n :: st) M Q) : mWm G y d pc L st M Q := wm_st (fun p e R s m args below meth c H locs cells slots ls Qf hA hR hL k => lv_sipush hA.1 hA.2.1 hd hv k) h
theorem wm_lconst {n : Fin 2} {x : Int} (hd : decode y.2.1 pc = .ok (.lconst n, 1)) (hv : Int64.ofNat (n : Nat) = Int64.ofInt x) (h : mWm G y d (pc + 1) L (vl x :: st) M Q) : mWm G y d pc L st M Q := wm_st (fun p e R s m args below meth c H locs cells slots ls Qf hA hR hL k => lv_lconst hA.1 hA.2.1 hd hv k) h
theorem wm_ldc {i : Nat} {v : Int32} {x : Int} (hd : decode y.2.1 pc = .ok (.ldc i, 2)) (hw : Cond.constant y.1.cls i v ∈ lw_R) (hv : v = Int32.ofInt x) (h : mWm G y d (pc + 2) L (vi x :: st) M Q) : mWm G y d pc L st M Q := wm_st (fun p e R s m args below meth c H locs cells slots ls Qf hA hR hL k => by subst hv; exact lv_ldc hA.1 hA.2.1 hA.2.2.2.2.2.2.1 (hA.2.2.2.2.2.2.2.2.1 _ hw) hd k) h
theorem wm_ldcw {i : Nat} {v : Int32} {x : Int} (hd : decode y.2.1 pc = .ok (.ldc_w i, 3)) (hw : Cond.constant y.1.cls i v ∈ lw_R) (hv : v = Int32.ofInt x) (h : mWm G y d (pc + 3) L (vi x :: st) M Q) : mWm G y d pc L st M Q := wm_st (fun p e R s m args below meth c H locs cells slots ls Qf hA hR hL k => by subst hv; exact lv_ldcw hA.1 hA.2.1 hA.2.2.2.2.2.2.1 (hA.2.2.2.2.2.2.2.2.1 _ hw) hd k) h
theorem wm_ldc2 {i : Nat} {v : Int64} {x : Int} (hd : decode y.2.1 pc = .ok (.ldc2_w i, 3)) (hw : Cond.constantLong y.1.cls i v ∈ lw_R) (hv : v = Int64.ofInt x) (h : mWm G y d (pc + 3) L (vl x :: st) M Q) : mWm G y d pc L st M Q := wm_st (fun p e R s m args below meth c H locs cells slots ls Qf hA hR hL k => by subst hv; exact lv_ldc2 hA.1 hA.2.1 hA.2.2.2.2.2.2.1 (hA.2.2.2.2.2.2.2.2.1 _ hw) hd k) h
theorem wm_null  (hd : decode y.2.1 pc = .ok (.aconst_null, 1)) (h : mWm G y d (pc + 1) L (vr 0 :: st) M Q) : mWm G y d pc L st M Q := wm_st (fun p e R s m args below meth c H locs cells slots ls Qf hA hR hL k => lv_null hA.1 hA.2.1 hd k) h
theorem wm_iload_n {k0 : Fin 4} {i : Nat} {x : Int} (hd : decode y.2.1 pc = .ok (.iload_n k0, 1)) (hi : (k0 : Nat) = i) (hv : L[i]? = some (vi x)) (h : mWm G y d (pc + 1) L (vi x :: st) M Q) : mWm G y d pc L st M Q := wm_st (fun p e R s m args below meth c H locs cells slots ls Qf hA hR hL k => lv_iload_n hA.1 hA.2.1 hd hi (hL.at hv rfl) k) h
theorem wm_iload {i : Nat} {x : Int} (hd : decode y.2.1 pc = .ok (.iload i, 2)) (hv : L[i]? = some (vi x)) (h : mWm G y d (pc + 2) L (vi x :: st) M Q) : mWm G y d pc L st M Q := wm_st (fun p e R s m args below meth c H locs cells slots ls Qf hA hR hL k => lv_iload hA.1 hA.2.1 hd (hL.at hv rfl) k) h
theorem wm_lload_n {k0 : Fin 4} {i : Nat} {x : Int} (hd : decode y.2.1 pc = .ok (.lload_n k0, 1)) (hi : (k0 : Nat) = i) (hv : L[i]? = some (vl x)) (h : mWm G y d (pc + 1) L (vl x :: st) M Q) : mWm G y d pc L st M Q := wm_st (fun p e R s m args below meth c H locs cells slots ls Qf hA hR hL k => lv_lload_n hA.1 hA.2.1 hd hi (hL.at hv rfl) k) h
theorem wm_lload {i : Nat} {x : Int} (hd : decode y.2.1 pc = .ok (.lload i, 2)) (hv : L[i]? = some (vl x)) (h : mWm G y d (pc + 2) L (vl x :: st) M Q) : mWm G y d pc L st M Q := wm_st (fun p e R s m args below meth c H locs cells slots ls Qf hA hR hL k => lv_lload hA.1 hA.2.1 hd (hL.at hv rfl) k) h
theorem wm_aload_n {k0 : Fin 4} {i : Nat} {x : Nat} (hd : decode y.2.1 pc = .ok (.aload_n k0, 1)) (hi : (k0 : Nat) = i) (hv : L[i]? = some (vr x)) (h : mWm G y d (pc + 1) L (vr x :: st) M Q) : mWm G y d pc L st M Q := by
  by_cases h0 : x = 0
  · subst h0
    exact wm_st (fun p e R s m args below meth c H locs cells slots ls Qf hA hR hL k => lv_aload_nN hA.1 hA.2.1 hd hi (hL.at hv rfl) k) h
  · have e9 : mcv (vr x) = .ref x := if_neg h0
    exact wm_st (fun p e R s m args below meth c H locs cells slots ls Qf hA hR hL k => by
      have k' : W p (gL G) e R s m args below meth c H locs cells slots Qf (F0 m (pc + 1) ls (.ref x :: st.map mcv)) := by rw [← e9]; exact k
      exact lv_aload_n hA.1 hA.2.1 hd hi (by rw [← e9]; exact hL.at hv rfl) k') h
theorem wm_aload {i : Nat} {x : Nat} (hd : decode y.2.1 pc = .ok (.aload i, 2)) (hv : L[i]? = some (vr x)) (h : mWm G y d (pc + 2) L (vr x :: st) M Q) : mWm G y d pc L st M Q := by
  by_cases h0 : x = 0
  · subst h0
    exact wm_st (fun p e R s m args below meth c H locs cells slots ls Qf hA hR hL k => lv_aloadN hA.1 hA.2.1 hd (hL.at hv rfl) k) h
  · have e9 : mcv (vr x) = .ref x := if_neg h0
    exact wm_st (fun p e R s m args below meth c H locs cells slots ls Qf hA hR hL k => by
      have k' : W p (gL G) e R s m args below meth c H locs cells slots Qf (F0 m (pc + 2) ls (.ref x :: st.map mcv)) := by rw [← e9]; exact k
      exact lv_aload hA.1 hA.2.1 hd (by rw [← e9]; exact hL.at hv rfl) k') h
theorem wm_istore_n {k0 : Fin 4} {i : Nat} {x : Int} {L' : List mV} (hd : decode y.2.1 pc = .ok (.istore_n k0, 1)) (hi : (k0 : Nat) = i) (hn : i < y.2.2.1) (hS : mSto L i (vi x) = L') (h : mWm G y d (pc + 1) L' st M Q) : mWm G y d pc L (vi x :: st) M Q := by subst hS; exact wm_ls (fun p e R s m args below meth c H locs cells slots ls Qf hA hR hL k => lv_istore_n hA.1 hA.2.1 hd hi hL.has hn rfl (fun ls' h' => k ls' (mLs.sto (x := vi x) h'))) h
theorem wm_istore {i : Nat} {x : Int} {L' : List mV} (hd : decode y.2.1 pc = .ok (.istore i, 2)) (hn : i < y.2.2.1) (hS : mSto L i (vi x) = L') (h : mWm G y d (pc + 2) L' st M Q) : mWm G y d pc L (vi x :: st) M Q := by subst hS; exact wm_ls (fun p e R s m args below meth c H locs cells slots ls Qf hA hR hL k => lv_istore hA.1 hA.2.1 hd hL.has hn rfl (fun ls' h' => k ls' (mLs.sto (x := vi x) h'))) h
theorem wm_lstore_n {k0 : Fin 4} {i : Nat} {x : Int} {L' : List mV} (hd : decode y.2.1 pc = .ok (.lstore_n k0, 1)) (hi : (k0 : Nat) = i) (hn : i + 1 < y.2.2.1) (hS : mSto2 L i (vl x) = L') (h : mWm G y d (pc + 1) L' st M Q) : mWm G y d pc L (vl x :: st) M Q := by subst hS; exact wm_ls (fun p e R s m args below meth c H locs cells slots ls Qf hA hR hL k => lv_lstore_n hA.1 hA.2.1 hd hi hL.has hn rfl (fun ls' h' => k ls' (mLs.sto2 (x := vl x) h'))) h
theorem wm_lstore {i : Nat} {x : Int} {L' : List mV} (hd : decode y.2.1 pc = .ok (.lstore i, 2)) (hn : i + 1 < y.2.2.1) (hS : mSto2 L i (vl x) = L') (h : mWm G y d (pc + 2) L' st M Q) : mWm G y d pc L (vl x :: st) M Q := by subst hS; exact wm_ls (fun p e R s m args below meth c H locs cells slots ls Qf hA hR hL k => lv_lstore hA.1 hA.2.1 hd hL.has hn rfl (fun ls' h' => k ls' (mLs.sto2 (x := vl x) h'))) h
theorem wm_astore_n {k0 : Fin 4} {i : Nat} {x : Nat} {L' : List mV} (hd : decode y.2.1 pc = .ok (.astore_n k0, 1)) (hi : (k0 : Nat) = i) (hn : i < y.2.2.1) (hS : mSto L i (vr x) = L') (h : mWm G y d (pc + 1) L' st M Q) : mWm G y d pc L (vr x :: st) M Q := by
  subst hS
  by_cases h0 : x = 0
  · subst h0
    exact wm_ls (fun p e R s m args below meth c H locs cells slots ls Qf hA hR hL k => lv_astore_nN hA.1 hA.2.1 hd hi hL.has hn rfl (fun ls' h' => k ls' (mLs.sto (x := vr 0) h'))) h
  · have e9 : mcv (vr x) = .ref x := if_neg h0
    exact wm_ls (fun p e R s m args below meth c H locs cells slots ls Qf hA hR hL k => by
      show W p (gL G) e R s m args below meth c H locs cells slots Qf (F0 m pc ls (mcv (vr x) :: st.map mcv))
      rw [e9]
      exact lv_astore_n hA.1 hA.2.1 hd hi hL.has hn rfl (fun ls' h' => k ls' (mLs.sto (x := vr x) (by rw [e9]; exact h')))) h
theorem wm_astore {i : Nat} {x : Nat} {L' : List mV} (hd : decode y.2.1 pc = .ok (.astore i, 2)) (hn : i < y.2.2.1) (hS : mSto L i (vr x) = L') (h : mWm G y d (pc + 2) L' st M Q) : mWm G y d pc L (vr x :: st) M Q := by
  subst hS
  by_cases h0 : x = 0
  · subst h0
    exact wm_ls (fun p e R s m args below meth c H locs cells slots ls Qf hA hR hL k => lv_astoreN hA.1 hA.2.1 hd hL.has hn rfl (fun ls' h' => k ls' (mLs.sto (x := vr 0) h'))) h
  · have e9 : mcv (vr x) = .ref x := if_neg h0
    exact wm_ls (fun p e R s m args below meth c H locs cells slots ls Qf hA hR hL k => by
      show W p (gL G) e R s m args below meth c H locs cells slots Qf (F0 m pc ls (mcv (vr x) :: st.map mcv))
      rw [e9]
      exact lv_astore hA.1 hA.2.1 hd hL.has hn rfl (fun ls' h' => k ls' (mLs.sto (x := vr x) (by rw [e9]; exact h')))) h
theorem wm_iinc {i : Nat} {n x : Int} {L' : List mV} (hd : decode y.2.1 pc = .ok (.iinc i n, 3)) (hn : i < y.2.2.1) (hv : L[i]? = some (vi x)) (hS : mSto L i (vi (x + n)) = L') (h : mWm G y d (pc + 3) L' st M Q) : mWm G y d pc L st M Q := by
  subst hS
  obtain ⟨k9, hk9⟩ := List.getElem?_of_mem (mTo_mem (q := (i, mcv (vi x))).mpr ⟨vi x, hv, rfl, rfl⟩)
  exact wm_ls (fun p e R s m args below meth c H locs cells slots ls Qf hA hR hL k => lv_iinc hA.1 hA.2.1 hd hL.has hk9 (by rw [← Int32.ofInt_add]) hn rfl (fun ls' h' => k ls' (mLs.sto (x := vi (x + n)) h'))) h
theorem wm_iadd {x z : Int} (hd : decode y.2.1 pc = .ok (.iadd, 1)) (h : mWm G y d (pc + 1) L (vi (x + z) :: st) M Q) : mWm G y d pc L (vi z :: vi x :: st) M Q :=
  wm_st (fun p e R s m args below meth c H locs cells slots ls Qf hA hR hL k => by
    have k' : W p (gL G) e R s m args below meth c H locs cells slots Qf (F0 m (pc + 1) ls (.int (Int32.ofInt (x + z)) :: st.map mcv)) := k
    rw [Int32.ofInt_add] at k'
    exact lv_iadd hA.1 hA.2.1 hd k') h
theorem wm_isub {x z : Int} (hd : decode y.2.1 pc = .ok (.isub, 1)) (h : mWm G y d (pc + 1) L (vi (x - z) :: st) M Q) : mWm G y d pc L (vi z :: vi x :: st) M Q :=
  wm_st (fun p e R s m args below meth c H locs cells slots ls Qf hA hR hL k => by
    have k' : W p (gL G) e R s m args below meth c H locs cells slots Qf (F0 m (pc + 1) ls (.int (Int32.ofInt (x - z)) :: st.map mcv)) := k
    rw [Int32.ofInt_sub] at k'
    exact lv_isub hA.1 hA.2.1 hd k') h
theorem wm_imul {x z : Int} (hd : decode y.2.1 pc = .ok (.imul, 1)) (h : mWm G y d (pc + 1) L (vi (x * z) :: st) M Q) : mWm G y d pc L (vi z :: vi x :: st) M Q :=
  wm_st (fun p e R s m args below meth c H locs cells slots ls Qf hA hR hL k => by
    have k' : W p (gL G) e R s m args below meth c H locs cells slots Qf (F0 m (pc + 1) ls (.int (Int32.ofInt (x * z)) :: st.map mcv)) := k
    rw [Int32.ofInt_mul] at k'
    exact lv_imul hA.1 hA.2.1 hd k') h
theorem wm_ladd {x z : Int} (hd : decode y.2.1 pc = .ok (.ladd, 1)) (h : mWm G y d (pc + 1) L (vl (x + z) :: st) M Q) : mWm G y d pc L (vl z :: vl x :: st) M Q :=
  wm_st (fun p e R s m args below meth c H locs cells slots ls Qf hA hR hL k => by
    have k' : W p (gL G) e R s m args below meth c H locs cells slots Qf (F0 m (pc + 1) ls (.long (Int64.ofInt (x + z)) :: st.map mcv)) := k
    rw [Int64.ofInt_add] at k'
    exact lv_ladd hA.1 hA.2.1 hd k') h
theorem wm_lsub {x z : Int} (hd : decode y.2.1 pc = .ok (.lsub, 1)) (h : mWm G y d (pc + 1) L (vl (x - z) :: st) M Q) : mWm G y d pc L (vl z :: vl x :: st) M Q :=
  wm_st (fun p e R s m args below meth c H locs cells slots ls Qf hA hR hL k => by
    have k' : W p (gL G) e R s m args below meth c H locs cells slots Qf (F0 m (pc + 1) ls (.long (Int64.ofInt (x - z)) :: st.map mcv)) := k
    rw [Int64.ofInt_sub] at k'
    exact lv_lsub hA.1 hA.2.1 hd k') h
theorem wm_lmul {x z : Int} (hd : decode y.2.1 pc = .ok (.lmul, 1)) (h : mWm G y d (pc + 1) L (vl (x * z) :: st) M Q) : mWm G y d pc L (vl z :: vl x :: st) M Q :=
  wm_st (fun p e R s m args below meth c H locs cells slots ls Qf hA hR hL k => by
    have k' : W p (gL G) e R s m args below meth c H locs cells slots Qf (F0 m (pc + 1) ls (.long (Int64.ofInt (x * z)) :: st.map mcv)) := k
    rw [Int64.ofInt_mul] at k'
    exact lv_lmul hA.1 hA.2.1 hd k') h
theorem wm_ishl {x z : Int} (hd : decode y.2.1 pc = .ok (.ishl, 1)) (h : mWm G y d (pc + 1) L (vi (shlI x z) :: st) M Q) : mWm G y d pc L (vi z :: vi x :: st) M Q :=
  wm_st (fun p e R s m args below meth c H locs cells slots ls Qf hA hR hL k => by
    have k' : W p (gL G) e R s m args below meth c H locs cells slots Qf (F0 m (pc + 1) ls (.int (Int32.ofInt (shlI x z)) :: st.map mcv)) := k
    rw [show Int32.ofInt (shlI x z) = _ from Int32.ofInt_toInt _] at k'
    exact lv_ishl hA.1 hA.2.1 hd k') h
theorem wm_ishr {x z : Int} (hd : decode y.2.1 pc = .ok (.ishr, 1)) (h : mWm G y d (pc + 1) L (vi (shrI x z) :: st) M Q) : mWm G y d pc L (vi z :: vi x :: st) M Q :=
  wm_st (fun p e R s m args below meth c H locs cells slots ls Qf hA hR hL k => by
    have k' : W p (gL G) e R s m args below meth c H locs cells slots Qf (F0 m (pc + 1) ls (.int (Int32.ofInt (shrI x z)) :: st.map mcv)) := k
    rw [show Int32.ofInt (shrI x z) = _ from Int32.ofInt_toInt _] at k'
    exact lv_ishr hA.1 hA.2.1 hd k') h
theorem wm_iand {x z : Int} (hd : decode y.2.1 pc = .ok (.iand, 1)) (h : mWm G y d (pc + 1) L (vi (andI x z) :: st) M Q) : mWm G y d pc L (vi z :: vi x :: st) M Q :=
  wm_st (fun p e R s m args below meth c H locs cells slots ls Qf hA hR hL k => by
    have k' : W p (gL G) e R s m args below meth c H locs cells slots Qf (F0 m (pc + 1) ls (.int (Int32.ofInt (andI x z)) :: st.map mcv)) := k
    rw [show Int32.ofInt (andI x z) = _ from Int32.ofInt_toInt _] at k'
    exact lv_iand hA.1 hA.2.1 hd k') h
theorem wm_ior {x z : Int} (hd : decode y.2.1 pc = .ok (.ior, 1)) (h : mWm G y d (pc + 1) L (vi (orI x z) :: st) M Q) : mWm G y d pc L (vi z :: vi x :: st) M Q :=
  wm_st (fun p e R s m args below meth c H locs cells slots ls Qf hA hR hL k => by
    have k' : W p (gL G) e R s m args below meth c H locs cells slots Qf (F0 m (pc + 1) ls (.int (Int32.ofInt (orI x z)) :: st.map mcv)) := k
    rw [show Int32.ofInt (orI x z) = _ from Int32.ofInt_toInt _] at k'
    exact lv_ior hA.1 hA.2.1 hd k') h
theorem wm_ixor {x z : Int} (hd : decode y.2.1 pc = .ok (.ixor, 1)) (h : mWm G y d (pc + 1) L (vi (xorI x z) :: st) M Q) : mWm G y d pc L (vi z :: vi x :: st) M Q :=
  wm_st (fun p e R s m args below meth c H locs cells slots ls Qf hA hR hL k => by
    have k' : W p (gL G) e R s m args below meth c H locs cells slots Qf (F0 m (pc + 1) ls (.int (Int32.ofInt (xorI x z)) :: st.map mcv)) := k
    rw [show Int32.ofInt (xorI x z) = _ from Int32.ofInt_toInt _] at k'
    exact lv_ixor hA.1 hA.2.1 hd k') h
theorem wm_land {x z : Int} (hd : decode y.2.1 pc = .ok (.land, 1)) (h : mWm G y d (pc + 1) L (vl (andL x z) :: st) M Q) : mWm G y d pc L (vl z :: vl x :: st) M Q :=
  wm_st (fun p e R s m args below meth c H locs cells slots ls Qf hA hR hL k => by
    have k' : W p (gL G) e R s m args below meth c H locs cells slots Qf (F0 m (pc + 1) ls (.long (Int64.ofInt (andL x z)) :: st.map mcv)) := k
    rw [show Int64.ofInt (andL x z) = _ from Int64.ofInt_toInt _] at k'
    exact lv_land hA.1 hA.2.1 hd k') h
theorem wm_iushr {x z : Int} (hd : decode y.2.1 pc = .ok (.iushr, 1)) (h : mWm G y d (pc + 1) L (vi (ushrI x z) :: st) M Q) : mWm G y d pc L (vi z :: vi x :: st) M Q :=
  wm_st (fun p e R s m args below meth c H locs cells slots ls Qf hA hR hL k => lv_iushr hA.1 hA.2.1 hd (Int32.ofInt_toInt _).symm k) h
theorem wm_lshl {x z : Int} (hd : decode y.2.1 pc = .ok (.lshl, 1)) (h : mWm G y d (pc + 1) L (vl (shlL x z) :: st) M Q) : mWm G y d pc L (vi z :: vl x :: st) M Q :=
  wm_st (fun p e R s m args below meth c H locs cells slots ls Qf hA hR hL k => lv_lshl hA.1 hA.2.1 hd (Int64.ofInt_toInt _).symm k) h
theorem wm_lshr {x z : Int} (hd : decode y.2.1 pc = .ok (.lshr, 1)) (h : mWm G y d (pc + 1) L (vl (shrL x z) :: st) M Q) : mWm G y d pc L (vi z :: vl x :: st) M Q :=
  wm_st (fun p e R s m args below meth c H locs cells slots ls Qf hA hR hL k => lv_lshr hA.1 hA.2.1 hd (Int64.ofInt_toInt _).symm k) h
theorem wm_lushr {x z : Int} (hd : decode y.2.1 pc = .ok (.lushr, 1)) (h : mWm G y d (pc + 1) L (vl (ushrL x z) :: st) M Q) : mWm G y d pc L (vi z :: vl x :: st) M Q :=
  wm_st (fun p e R s m args below meth c H locs cells slots ls Qf hA hR hL k => lv_lushr hA.1 hA.2.1 hd (Int64.ofInt_toInt _).symm k) h
theorem wm_ineg {x : Int} (hd : decode y.2.1 pc = .ok (.ineg, 1)) (h : mWm G y d (pc + 1) L (vi (-x) :: st) M Q) : mWm G y d pc L (vi x :: st) M Q :=
  wm_st (fun p e R s m args below meth c H locs cells slots ls Qf hA hR hL k => by
    have k' : W p (gL G) e R s m args below meth c H locs cells slots Qf (F0 m (pc + 1) ls (.int (Int32.ofInt (-x)) :: st.map mcv)) := k
    rw [Int32.ofInt_neg] at k'
    exact lv_ineg hA.1 hA.2.1 hd k') h
theorem m_idiv {x z : Int} (hx : i32 x) (hz : i32 z) : Int32.ofInt x / Int32.ofInt z = Int32.ofInt (x.tdiv z) := by
  rw [← Int32.toInt_inj, Int32.toInt_div, i32_toInt hx, i32_toInt hz, Int32.toInt_ofInt]
theorem m_irem {x z : Int} (hx : i32 x) (hz : i32 z) : Int32.ofInt x - Int32.ofInt x / Int32.ofInt z * Int32.ofInt z = Int32.ofInt (x.tmod z) := by
  rw [m_idiv hx hz, ← Int32.ofInt_mul, ← Int32.ofInt_sub]
  congr 1
  have := Int.tmod_add_mul_tdiv x z
  rw [Int.mul_comm] at this
  omega
theorem wm_idiv {x z : Int} (hd : decode y.2.1 pc = .ok (.idiv, 1)) (hx : i32 x) (hz : i32 z) (h0 : z ≠ 0) (h : mWm G y d (pc + 1) L (vi (x.tdiv z) :: st) M Q) : mWm G y d pc L (vi z :: vi x :: st) M Q :=
  wm_st (fun p e R s m args below meth c H locs cells slots ls Qf hA hR hL k => by
    have k' : W p (gL G) e R s m args below meth c H locs cells slots Qf (F0 m (pc + 1) ls (.int (Int32.ofInt (x.tdiv z)) :: st.map mcv)) := k
    rw [← m_idiv hx hz] at k'
    exact lv_idiv hA.1 hA.2.1 hd (fun q => h0 ((i32_eq hz ⟨by decide, by decide⟩).mp q)) k') h
theorem wm_irem {x z : Int} (hd : decode y.2.1 pc = .ok (.irem, 1)) (hx : i32 x) (hz : i32 z) (h0 : z ≠ 0) (h : mWm G y d (pc + 1) L (vi (x.tmod z) :: st) M Q) : mWm G y d pc L (vi z :: vi x :: st) M Q :=
  wm_st (fun p e R s m args below meth c H locs cells slots ls Qf hA hR hL k => by
    have k' : W p (gL G) e R s m args below meth c H locs cells slots Qf (F0 m (pc + 1) ls (.int (Int32.ofInt (x.tmod z)) :: st.map mcv)) := k
    rw [← m_irem hx hz] at k'
    exact lv_irem hA.1 hA.2.1 hd (fun q => h0 ((i32_eq hz ⟨by decide, by decide⟩).mp q)) k') h
theorem wm_lneg {x : Int} (hd : decode y.2.1 pc = .ok (.lneg, 1)) (h : mWm G y d (pc + 1) L (vl (-x) :: st) M Q) : mWm G y d pc L (vl x :: st) M Q :=
  wm_st (fun p e R s m args below meth c H locs cells slots ls Qf hA hR hL k => by
    have k' : W p (gL G) e R s m args below meth c H locs cells slots Qf (F0 m (pc + 1) ls (.long (Int64.ofInt (-x)) :: st.map mcv)) := k
    rw [Int64.ofInt_neg] at k'
    exact lv_lneg hA.1 hA.2.1 hd k') h
theorem m_ldiv {x z : Int} (hx : i64 x) (hz : i64 z) : Int64.ofInt x / Int64.ofInt z = Int64.ofInt (x.tdiv z) := by
  rw [← Int64.toInt_inj, Int64.toInt_div, i64_toInt hx, i64_toInt hz, Int64.toInt_ofInt]
theorem m_lrem {x z : Int} (hx : i64 x) (hz : i64 z) : Int64.ofInt x - Int64.ofInt x / Int64.ofInt z * Int64.ofInt z = Int64.ofInt (x.tmod z) := by
  rw [m_ldiv hx hz, ← Int64.ofInt_mul, ← Int64.ofInt_sub]
  congr 1
  have := Int.tmod_add_mul_tdiv x z
  rw [Int.mul_comm] at this
  omega
theorem wm_ldiv {x z : Int} (hd : decode y.2.1 pc = .ok (.ldiv, 1)) (hx : i64 x) (hz : i64 z) (h0 : z ≠ 0) (h : mWm G y d (pc + 1) L (vl (x.tdiv z) :: st) M Q) : mWm G y d pc L (vl z :: vl x :: st) M Q :=
  wm_st (fun p e R s m args below meth c H locs cells slots ls Qf hA hR hL k => by
    have k' : W p (gL G) e R s m args below meth c H locs cells slots Qf (F0 m (pc + 1) ls (.long (Int64.ofInt (x.tdiv z)) :: st.map mcv)) := k
    rw [← m_ldiv hx hz] at k'
    exact lv_ldiv hA.1 hA.2.1 hd (fun q => h0 ((i64_eq hz ⟨by decide, by decide⟩).mp q)) k') h
theorem wm_lrem {x z : Int} (hd : decode y.2.1 pc = .ok (.lrem, 1)) (hx : i64 x) (hz : i64 z) (h0 : z ≠ 0) (h : mWm G y d (pc + 1) L (vl (x.tmod z) :: st) M Q) : mWm G y d pc L (vl z :: vl x :: st) M Q :=
  wm_st (fun p e R s m args below meth c H locs cells slots ls Qf hA hR hL k => by
    have k' : W p (gL G) e R s m args below meth c H locs cells slots Qf (F0 m (pc + 1) ls (.long (Int64.ofInt (x.tmod z)) :: st.map mcv)) := k
    rw [← m_lrem hx hz] at k'
    exact lv_lrem hA.1 hA.2.1 hd (fun q => h0 ((i64_eq hz ⟨by decide, by decide⟩).mp q)) k') h
theorem m_i2l {x : Int} (hx : i32 x) : (Int32.ofInt x).toInt64 = Int64.ofInt x := by
  rw [← Int64.toInt_inj, Int32.toInt_toInt64, i32_toInt hx, i64_toInt ⟨by have := hx.1; omega, by have := hx.2; omega⟩]
theorem m_l2i (x : Int) : (Int64.ofInt x).toInt32 = Int32.ofInt x := by
  rw [← Int32.toInt_inj, Int64.toInt_toInt32, Int64.toInt_ofInt, Int32.toInt_ofInt]
  exact Int.bmod_bmod_of_dvd (by decide)
theorem wm_i2l {x : Int} (hd : decode y.2.1 pc = .ok (.i2l, 1)) (hx : i32 x) (h : mWm G y d (pc + 1) L (vl x :: st) M Q) : mWm G y d pc L (vi x :: st) M Q := wm_st (fun p e R s m args below meth c H locs cells slots ls Qf hA hR hL k => lv_i2l hA.1 hA.2.1 hd (m_i2l hx) k) h
theorem wm_l2i {x : Int} (hd : decode y.2.1 pc = .ok (.l2i, 1)) (h : mWm G y d (pc + 1) L (vi x :: st) M Q) : mWm G y d pc L (vl x :: st) M Q := wm_st (fun p e R s m args below meth c H locs cells slots ls Qf hA hR hL k => lv_l2i hA.1 hA.2.1 hd (m_l2i x) k) h
theorem wm_i2c {x : Int} (hd : decode y.2.1 pc = .ok (.i2c, 1)) (h : mWm G y d (pc + 1) L (vi (i2cI x) :: st) M Q) : mWm G y d pc L (vi x :: st) M Q := wm_st (fun p e R s m args below meth c H locs cells slots ls Qf hA hR hL k => lv_i2c hA.1 hA.2.1 hd (Int32.ofInt_toInt _).symm k) h
theorem m_lcmp {x z : Int} (hx : i64 x) (hz : i64 z) : lg_cmp (Int64.ofInt x) (Int64.ofInt z) = Int32.ofInt (cmpL x z) := by
  unfold lg_cmp cmpL
  have e1 : (Int64.ofInt x > Int64.ofInt z) ↔ z < x := i64_lt hz hx
  have e2 := i64_eq hx hz
  by_cases q : z < x
  · rw [if_pos q, if_pos (e1.mpr q)]; rfl
  · rw [if_neg q, if_neg (fun h => q (e1.mp h))]
    by_cases q2 : x = z
    · rw [if_pos q2, if_pos (e2.mpr q2)]; rfl
    · rw [if_neg q2, if_neg (fun h => q2 (e2.mp h))]; rfl
theorem wm_lcmp {x z : Int} (hd : decode y.2.1 pc = .ok (.lcmp, 1)) (hx : i64 x) (hz : i64 z) (h : mWm G y d (pc + 1) L (vi (cmpL x z) :: st) M Q) : mWm G y d pc L (vl z :: vl x :: st) M Q :=
  wm_st (fun p e R s m args below meth c H locs cells slots ls Qf hA hR hL k => by
    have k' : W p (gL G) e R s m args below meth c H locs cells slots Qf (F0 m (pc + 1) ls (.int (Int32.ofInt (cmpL x z)) :: st.map mcv)) := k
    rw [← m_lcmp hx hz] at k'
    exact W.lcmp hA.1 hA.2.1 hd k') h
theorem wm_dup {v : mV} (hd : decode y.2.1 pc = .ok (.dup, 1)) (hv : mcat v = 1) (h : mWm G y d (pc + 1) L (v :: v :: st) M Q) : mWm G y d pc L (v :: st) M Q := wm_st (fun p e R s m args below meth c H locs cells slots ls Qf hA hR hL k => lv_dup hA.1 hA.2.1 hd (by rw [mcat_mcv]; exact hv) k) h
theorem wm_pop {v : mV} (hd : decode y.2.1 pc = .ok (.pop, 1)) (hv : mcat v = 1) (h : mWm G y d (pc + 1) L st M Q) : mWm G y d pc L (v :: st) M Q := wm_st (fun p e R s m args below meth c H locs cells slots ls Qf hA hR hL k => lv_pop hA.1 hA.2.1 hd (by rw [mcat_mcv]; exact hv) k) h
theorem wm_dup_x1 {v w : mV} (hd : decode y.2.1 pc = .ok (.dup_x1, 1)) (hv : mcat v = 1) (hw : mcat w = 1) (h : mWm G y d (pc + 1) L (v :: w :: v :: st) M Q) : mWm G y d pc L (v :: w :: st) M Q := wm_st (fun p e R s m args below meth c H locs cells slots ls Qf hA hR hL k => lv_dup_x1 hA.1 hA.2.1 hd (by rw [mcat_mcv]; exact hv) (by rw [mcat_mcv]; exact hw) k) h
theorem wm_dup2 {v w : mV} (hd : decode y.2.1 pc = .ok (.dup2, 1)) (hv : mcat v = 1) (hw : mcat w = 1) (h : mWm G y d (pc + 1) L (v :: w :: v :: w :: st) M Q) : mWm G y d pc L (v :: w :: st) M Q := wm_st (fun p e R s m args below meth c H locs cells slots ls Qf hA hR hL k => lv_dup2_11 hA.1 hA.2.1 hd (by rw [mcat_mcv]; exact hv) (by rw [mcat_mcv]; exact hw) k) h
theorem wm_if_eq {x : Int} {off : Int} {tgt : Nat} (hd : decode y.2.1 pc = .ok (.ifCond .eq off, 3)) (ht : (pc : Int) + off = (tgt : Int)) (hx : i32 x) (kt : x = 0 → mWm G y d tgt L st M Q) (kf : ¬ (x = 0) → mWm G y d (pc + 3) L st M Q) : mWm G y d pc L (vi x :: st) M Q := by
  by_cases hc : x = 0
  · exact wm_st (fun p e R s m args below meth c H locs cells slots ls Qf hA hR hL k => lv_if_eq hA.1 hA.2.1 hd ht (fun _ => k) (fun q => absurd ((i32_eq0 hx).mpr hc) q)) (kt hc)
  · exact wm_st (fun p e R s m args below meth c H locs cells slots ls Qf hA hR hL k => lv_if_eq hA.1 hA.2.1 hd ht (fun q => absurd ((i32_eq0 hx).mp q) hc) (fun _ => k)) (kf hc)
theorem wm_icmp_eq {x z : Int} {off : Int} {tgt : Nat} (hd : decode y.2.1 pc = .ok (.if_icmp .eq off, 3)) (ht : (pc : Int) + off = (tgt : Int)) (hx : i32 x) (hz : i32 z) (kt : x = z → mWm G y d tgt L st M Q) (kf : ¬ (x = z) → mWm G y d (pc + 3) L st M Q) : mWm G y d pc L (vi z :: vi x :: st) M Q := by
  by_cases hc : x = z
  · exact wm_st (fun p e R s m args below meth c H locs cells slots ls Qf hA hR hL k => lv_icmp_eq hA.1 hA.2.1 hd ht (fun _ => k) (fun q => absurd ((i32_eq hx hz).mpr hc) q)) (kt hc)
  · exact wm_st (fun p e R s m args below meth c H locs cells slots ls Qf hA hR hL k => lv_icmp_eq hA.1 hA.2.1 hd ht (fun q => absurd ((i32_eq hx hz).mp q) hc) (fun _ => k)) (kf hc)
theorem wm_if_ne {x : Int} {off : Int} {tgt : Nat} (hd : decode y.2.1 pc = .ok (.ifCond .ne off, 3)) (ht : (pc : Int) + off = (tgt : Int)) (hx : i32 x) (kt : ¬ x = 0 → mWm G y d tgt L st M Q) (kf : ¬ (¬ x = 0) → mWm G y d (pc + 3) L st M Q) : mWm G y d pc L (vi x :: st) M Q := by
  by_cases hc : ¬ x = 0
  · exact wm_st (fun p e R s m args below meth c H locs cells slots ls Qf hA hR hL k => lv_if_ne hA.1 hA.2.1 hd ht (fun _ => k) (fun q => absurd ((i32_eq0 hx).mp q) hc)) (kt hc)
  · exact wm_st (fun p e R s m args below meth c H locs cells slots ls Qf hA hR hL k => lv_if_ne hA.1 hA.2.1 hd ht (fun q => absurd ((i32_eq0 hx).mpr (Classical.not_not.mp hc)) q) (fun _ => k)) (kf hc)
theorem wm_icmp_ne {x z : Int} {off : Int} {tgt : Nat} (hd : decode y.2.1 pc = .ok (.if_icmp .ne off, 3)) (ht : (pc : Int) + off = (tgt : Int)) (hx : i32 x) (hz : i32 z) (kt : ¬ x = z → mWm G y d tgt L st M Q) (kf : ¬ (¬ x = z) → mWm G y d (pc + 3) L st M Q) : mWm G y d pc L (vi z :: vi x :: st) M Q := by
  by_cases hc : ¬ x = z
  · exact wm_st (fun p e R s m args below meth c H locs cells slots ls Qf hA hR hL k => lv_icmp_ne hA.1 hA.2.1 hd ht (fun _ => k) (fun q => absurd ((i32_eq hx hz).mp q) hc)) (kt hc)
  · exact wm_st (fun p e R s m args below meth c H locs cells slots ls Qf hA hR hL k => lv_icmp_ne hA.1 hA.2.1 hd ht (fun q => absurd ((i32_eq hx hz).mpr (Classical.not_not.mp hc)) q) (fun _ => k)) (kf hc)
theorem wm_if_lt {x : Int} {off : Int} {tgt : Nat} (hd : decode y.2.1 pc = .ok (.ifCond .lt off, 3)) (ht : (pc : Int) + off = (tgt : Int)) (hx : i32 x) (kt : x < 0 → mWm G y d tgt L st M Q) (kf : ¬ (x < 0) → mWm G y d (pc + 3) L st M Q) : mWm G y d pc L (vi x :: st) M Q := by
  by_cases hc : x < 0
  · exact wm_st (fun p e R s m args below meth c H locs cells slots ls Qf hA hR hL k => lv_if_lt hA.1 hA.2.1 hd ht (fun _ => k) (fun q => absurd ((i32_lt0 hx).mpr hc) q)) (kt hc)
  · exact wm_st (fun p e R s m args below meth c H locs cells slots ls Qf hA hR hL k => lv_if_lt hA.1 hA.2.1 hd ht (fun q => absurd ((i32_lt0 hx).mp q) hc) (fun _ => k)) (kf hc)
theorem wm_icmp_lt {x z : Int} {off : Int} {tgt : Nat} (hd : decode y.2.1 pc = .ok (.if_icmp .lt off, 3)) (ht : (pc : Int) + off = (tgt : Int)) (hx : i32 x) (hz : i32 z) (kt : x < z → mWm G y d tgt L st M Q) (kf : ¬ (x < z) → mWm G y d (pc + 3) L st M Q) : mWm G y d pc L (vi z :: vi x :: st) M Q := by
  by_cases hc : x < z
  · exact wm_st (fun p e R s m args below meth c H locs cells slots ls Qf hA hR hL k => lv_icmp_lt hA.1 hA.2.1 hd ht (fun _ => k) (fun q => absurd ((i32_lt hx hz).mpr hc) q)) (kt hc)
  · exact wm_st (fun p e R s m args below meth c H locs cells slots ls Qf hA hR hL k => lv_icmp_lt hA.1 hA.2.1 hd ht (fun q => absurd ((i32_lt hx hz).mp q) hc) (fun _ => k)) (kf hc)
theorem wm_if_ge {x : Int} {off : Int} {tgt : Nat} (hd : decode y.2.1 pc = .ok (.ifCond .ge off, 3)) (ht : (pc : Int) + off = (tgt : Int)) (hx : i32 x) (kt : 0 ≤ x → mWm G y d tgt L st M Q) (kf : ¬ (0 ≤ x) → mWm G y d (pc + 3) L st M Q) : mWm G y d pc L (vi x :: st) M Q := by
  by_cases hc : 0 ≤ x
  · exact wm_st (fun p e R s m args below meth c H locs cells slots ls Qf hA hR hL k => lv_if_ge hA.1 hA.2.1 hd ht (fun _ => k) (fun q => absurd ((i32_ge0 hx).mpr hc) q)) (kt hc)
  · exact wm_st (fun p e R s m args below meth c H locs cells slots ls Qf hA hR hL k => lv_if_ge hA.1 hA.2.1 hd ht (fun q => absurd ((i32_ge0 hx).mp q) hc) (fun _ => k)) (kf hc)
theorem wm_icmp_ge {x z : Int} {off : Int} {tgt : Nat} (hd : decode y.2.1 pc = .ok (.if_icmp .ge off, 3)) (ht : (pc : Int) + off = (tgt : Int)) (hx : i32 x) (hz : i32 z) (kt : z ≤ x → mWm G y d tgt L st M Q) (kf : ¬ (z ≤ x) → mWm G y d (pc + 3) L st M Q) : mWm G y d pc L (vi z :: vi x :: st) M Q := by
  by_cases hc : z ≤ x
  · exact wm_st (fun p e R s m args below meth c H locs cells slots ls Qf hA hR hL k => lv_icmp_ge hA.1 hA.2.1 hd ht (fun _ => k) (fun q => absurd ((i32_le hz hx).mpr hc) q)) (kt hc)
  · exact wm_st (fun p e R s m args below meth c H locs cells slots ls Qf hA hR hL k => lv_icmp_ge hA.1 hA.2.1 hd ht (fun q => absurd ((i32_le hz hx).mp q) hc) (fun _ => k)) (kf hc)
theorem wm_if_gt {x : Int} {off : Int} {tgt : Nat} (hd : decode y.2.1 pc = .ok (.ifCond .gt off, 3)) (ht : (pc : Int) + off = (tgt : Int)) (hx : i32 x) (kt : 0 < x → mWm G y d tgt L st M Q) (kf : ¬ (0 < x) → mWm G y d (pc + 3) L st M Q) : mWm G y d pc L (vi x :: st) M Q := by
  by_cases hc : 0 < x
  · exact wm_st (fun p e R s m args below meth c H locs cells slots ls Qf hA hR hL k => lv_if_gt hA.1 hA.2.1 hd ht (fun _ => k) (fun q => absurd ((i32_gt0 hx).mpr hc) q)) (kt hc)
  · exact wm_st (fun p e R s m args below meth c H locs cells slots ls Qf hA hR hL k => lv_if_gt hA.1 hA.2.1 hd ht (fun q => absurd ((i32_gt0 hx).mp q) hc) (fun _ => k)) (kf hc)
theorem wm_icmp_gt {x z : Int} {off : Int} {tgt : Nat} (hd : decode y.2.1 pc = .ok (.if_icmp .gt off, 3)) (ht : (pc : Int) + off = (tgt : Int)) (hx : i32 x) (hz : i32 z) (kt : z < x → mWm G y d tgt L st M Q) (kf : ¬ (z < x) → mWm G y d (pc + 3) L st M Q) : mWm G y d pc L (vi z :: vi x :: st) M Q := by
  by_cases hc : z < x
  · exact wm_st (fun p e R s m args below meth c H locs cells slots ls Qf hA hR hL k => lv_icmp_gt hA.1 hA.2.1 hd ht (fun _ => k) (fun q => absurd ((i32_lt hz hx).mpr hc) q)) (kt hc)
  · exact wm_st (fun p e R s m args below meth c H locs cells slots ls Qf hA hR hL k => lv_icmp_gt hA.1 hA.2.1 hd ht (fun q => absurd ((i32_lt hz hx).mp q) hc) (fun _ => k)) (kf hc)
theorem wm_if_le {x : Int} {off : Int} {tgt : Nat} (hd : decode y.2.1 pc = .ok (.ifCond .le off, 3)) (ht : (pc : Int) + off = (tgt : Int)) (hx : i32 x) (kt : x ≤ 0 → mWm G y d tgt L st M Q) (kf : ¬ (x ≤ 0) → mWm G y d (pc + 3) L st M Q) : mWm G y d pc L (vi x :: st) M Q := by
  by_cases hc : x ≤ 0
  · exact wm_st (fun p e R s m args below meth c H locs cells slots ls Qf hA hR hL k => lv_if_le hA.1 hA.2.1 hd ht (fun _ => k) (fun q => absurd ((i32_le0 hx).mpr hc) q)) (kt hc)
  · exact wm_st (fun p e R s m args below meth c H locs cells slots ls Qf hA hR hL k => lv_if_le hA.1 hA.2.1 hd ht (fun q => absurd ((i32_le0 hx).mp q) hc) (fun _ => k)) (kf hc)
theorem wm_icmp_le {x z : Int} {off : Int} {tgt : Nat} (hd : decode y.2.1 pc = .ok (.if_icmp .le off, 3)) (ht : (pc : Int) + off = (tgt : Int)) (hx : i32 x) (hz : i32 z) (kt : x ≤ z → mWm G y d tgt L st M Q) (kf : ¬ (x ≤ z) → mWm G y d (pc + 3) L st M Q) : mWm G y d pc L (vi z :: vi x :: st) M Q := by
  by_cases hc : x ≤ z
  · exact wm_st (fun p e R s m args below meth c H locs cells slots ls Qf hA hR hL k => lv_icmp_le hA.1 hA.2.1 hd ht (fun _ => k) (fun q => absurd ((i32_le hx hz).mpr hc) q)) (kt hc)
  · exact wm_st (fun p e R s m args below meth c H locs cells slots ls Qf hA hR hL k => lv_icmp_le hA.1 hA.2.1 hd ht (fun q => absurd ((i32_le hx hz).mp q) hc) (fun _ => k)) (kf hc)
theorem wm_goto {off : Int} {tgt : Nat} (hd : decode y.2.1 pc = .ok (.goto off, 3)) (ht : (pc : Int) + off = (tgt : Int)) (h : mWm G y d tgt L st M Q) : mWm G y d pc L st M Q := wm_st (fun p e R s m args below meth c H locs cells slots ls Qf hA hR hL k => lv_goto hA.1 hA.2.1 hd ht k) h
theorem wm_ifnull {x : Nat} {off : Int} {tgt : Nat} (hd : decode y.2.1 pc = .ok (.ifnull off, 3)) (ht : (pc : Int) + off = (tgt : Int)) (kt : x = 0 → mWm G y d tgt L st M Q) (kf : ¬ x = 0 → mWm G y d (pc + 3) L st M Q) : mWm G y d pc L (vr x :: st) M Q := by
  by_cases hc : x = 0
  · have e9 : mcv (vr x) = .null := if_pos hc
    exact wm_st (fun p e R s m args below meth c H locs cells slots ls Qf hA hR hL k => by
      show W p (gL G) e R s m args below meth c H locs cells slots Qf (F0 m pc ls (mcv (vr x) :: st.map mcv))
      rw [e9]; exact lv_ifnullN hA.1 hA.2.1 hd ht k) (kt hc)
  · have e9 : mcv (vr x) = .ref x := if_neg hc
    exact wm_st (fun p e R s m args below meth c H locs cells slots ls Qf hA hR hL k => by
      show W p (gL G) e R s m args below meth c H locs cells slots Qf (F0 m pc ls (mcv (vr x) :: st.map mcv))
      rw [e9]; exact lv_ifnull hA.1 hA.2.1 hd k) (kf hc)
theorem wm_ifnonnull {x : Nat} {off : Int} {tgt : Nat} (hd : decode y.2.1 pc = .ok (.ifnonnull off, 3)) (ht : (pc : Int) + off = (tgt : Int)) (kt : ¬ x = 0 → mWm G y d tgt L st M Q) (kf : ¬ ¬ x = 0 → mWm G y d (pc + 3) L st M Q) : mWm G y d pc L (vr x :: st) M Q := by
  by_cases hc : x = 0
  · have e9 : mcv (vr x) = .null := if_pos hc
    exact wm_st (fun p e R s m args below meth c H locs cells slots ls Qf hA hR hL k => by
      show W p (gL G) e R s m args below meth c H locs cells slots Qf (F0 m pc ls (mcv (vr x) :: st.map mcv))
      rw [e9]; exact lv_ifnonnullN hA.1 hA.2.1 hd k) (kf (fun q => q hc))
  · have e9 : mcv (vr x) = .ref x := if_neg hc
    exact wm_st (fun p e R s m args below meth c H locs cells slots ls Qf hA hR hL k => by
      show W p (gL G) e R s m args below meth c H locs cells slots Qf (F0 m pc ls (mcv (vr x) :: st.map mcv))
      rw [e9]; exact lv_ifnonnull hA.1 hA.2.1 hd ht k) (kt hc)
end Rules
