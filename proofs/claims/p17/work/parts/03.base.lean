section
/-! A shorter dress for contracts: the array classes are fixed (tA), a contract's world comes in and goes out as a list of cells, the frame is joined in one row. -/
section Base
variable {p : Program} {l : Launch} {e : Env} {R : Room} {s : State} {m : MethodId} {args : Array Value} {below : List Frame} {meth : Method} {c : Code} {H : Heap} {locs : List Loc} {cells slots : Nat} {Q : State → Prop}
/-- the array classes -/
abbrev zT (tA : Nat → ClassId) : List (ClassId × FieldType) := [(tA 0, .int), (tA 1, .boolean), (tA 2, .char), (tA 3, .long), (tA 4, .object "ChanceArena$Natural"), (tA 5, .object "ChanceArena$Fraction"), (tA 6, .object "ChanceArenaModel$Fraction")]
end Base
end
section
section
def dcB (c : ByteArray) (p : Nat) : Nat := if h : p < c.size then (c[p]'h).toNat else 256
theorem dcU1 {c : ByteArray} {p b : Nat} (h : dcB c p = b) (hb : b < 256) : (Jvm.ClassFile.Reader.u1 : Jvm.ClassFile.Decoder Nat) c p = .ok (b, p + 1) := by
  unfold dcB at h
  by_cases hp : p < c.size
  · rw [dif_pos hp] at h
    subst h
    simp [Jvm.ClassFile.Reader.u1, hp, MonadReader.read, readThe, MonadReaderOf.read, ReaderT.read, get, getThe, MonadStateOf.get, StateT.get, set, MonadStateOf.set, StateT.set, bind, ReaderT.bind, StateT.bind, Except.bind, Pure.pure, ReaderT.pure, StateT.pure, Except.pure, liftM, monadLift, MonadLift.monadLift, StateT.lift]
  · rw [dif_neg hp] at h; omega
theorem dcU2 {c : ByteArray} {p a b : Nat} (h : dcB c p = a) (ha : a < 256) (h2 : dcB c (p + 1) = b) (hb : b < 256) : (Jvm.ClassFile.Reader.u2 : Jvm.ClassFile.Decoder Nat) c p = .ok (a * 256 + b, p + 2) := by
  have e1 := dcU1 h ha
  have e2 := dcU1 h2 hb
  simp [Jvm.ClassFile.Reader.u2, bind, ReaderT.bind, StateT.bind, Except.bind, e1, e2, Pure.pure, ReaderT.pure, StateT.pure, Except.pure]
theorem dcK {c : ByteArray} {pc b n : Nat} {i : Jvm.ClassFile.Instr} {f : Nat → Jvm.ClassFile.Decoder Jvm.ClassFile.Instr} (h : dcB c pc = b) (hb : b < 256) (hf : Jvm.ClassFile.Decoder.instr pc = (Jvm.ClassFile.Reader.u1 >>= f)) (hi : f b c (pc + 1) = .ok (i, pc + n)) : decode c pc = .ok (i, n) := by
  have hu := dcU1 h hb
  unfold decode Jvm.ClassFile.Reader.runAt
  rw [hf]
  simp [ReaderT.run, StateT.run, bind, ReaderT.bind, StateT.bind, Except.bind, hu, hi, Pure.pure, Except.pure]
def dcL (c : ByteArray) (p : Nat) : List UInt8 := c.data.toList.drop p
theorem dcL_B {c : ByteArray} {p : Nat} {a : UInt8} {l : List UInt8} (h : dcL c p = a :: l) : dcB c p = a.toNat := by
  have h1 : c.data.toList[p]? = some a := by
    have := congrArg (fun x : List UInt8 => x[0]?) h
    simpa [dcL, List.getElem?_drop] using this
  obtain ⟨hp, e⟩ := List.getElem?_eq_some_iff.1 h1
  unfold dcB
  have hs : p < c.size := hp
  rw [dif_pos hs]
  have e2 : c[p]'hs = a := e
  rw [e2]
theorem dcL_T {c : ByteArray} {p : Nat} {a : UInt8} {l : List UInt8} (h : dcL c p = a :: l) : dcL c (p + 1) = l := by
  have e := congrArg List.tail h
  unfold dcL at *
  rw [List.tail_drop] at e
  exact e
theorem dcL_1 {c : ByteArray} {p : Nat} {a : UInt8} {l : List UInt8} (h : dcL c p = a :: l) : (Jvm.ClassFile.Reader.u1 : Jvm.ClassFile.Decoder Nat) c p = .ok (a.toNat, p + 1) := dcU1 (dcL_B h) a.toNat_lt
theorem dcL_2 {c : ByteArray} {p : Nat} {a b : UInt8} {l : List UInt8} (h : dcL c p = a :: b :: l) : (Jvm.ClassFile.Reader.u2 : Jvm.ClassFile.Decoder Nat) c p = .ok (a.toNat * 256 + b.toNat, p + 2) := dcU2 (dcL_B h) a.toNat_lt (dcL_B (dcL_T h)) b.toNat_lt
def dcq0 (c : ByteArray) (pc k : Nat) : Bool := match dcL c pc with | a :: _ => Nat.beq a.toNat k | _ => false
theorem dcK0 {c : ByteArray} {pc b : Nat} {i : Jvm.ClassFile.Instr} {f : Nat → Jvm.ClassFile.Decoder Jvm.ClassFile.Instr} (h : dcq0 c pc b = true) (hb : b < 256) (hf : Jvm.ClassFile.Decoder.instr pc = (Jvm.ClassFile.Reader.u1 >>= f)) (hg : f b = Pure.pure i) : decode c pc = .ok (i, 1) := by
  unfold dcq0 at h
  split at h
  · rename_i a l e
    exact dcK ((dcL_B e).trans (Nat.eq_of_beq_eq_true h)) hb hf (by rw [hg]; rfl)
  · cases h
def dcq1 (c : ByteArray) (pc k i : Nat) : Bool := match dcL c pc with | a :: d :: _ => Nat.beq a.toNat k && Nat.beq d.toNat i | _ => false
theorem dcK1 {c : ByteArray} {pc b i : Nat} (g : Nat → Jvm.ClassFile.Instr) {f : Nat → Jvm.ClassFile.Decoder Jvm.ClassFile.Instr} (h : dcq1 c pc b i = true) (hb : b < 256) (hf : Jvm.ClassFile.Decoder.instr pc = (Jvm.ClassFile.Reader.u1 >>= f)) (hg : f b = (Jvm.ClassFile.Reader.u1 >>= fun x => Pure.pure (g x))) : decode c pc = .ok (g i, 2) := by
  unfold dcq1 at h
  split at h
  · rename_i a d l e
    rw [Bool.and_eq_true] at h
    have e1 := dcL_1 (dcL_T e)
    rw [Nat.eq_of_beq_eq_true h.2] at e1
    refine dcK ((dcL_B e).trans (Nat.eq_of_beq_eq_true h.1)) hb hf ?_
    rw [hg]
    simp [bind, ReaderT.bind, StateT.bind, Except.bind, Pure.pure, ReaderT.pure, StateT.pure, Except.pure, e1]
  · cases h
def dcs1 (c : ByteArray) (pc k : Nat) (o : Int) : Bool := match dcL c pc with | a :: d :: _ => Nat.beq a.toNat k && decide (Jvm.ClassFile.Reader.signed 8 d.toNat = o) | _ => false
theorem dcKs1 {c : ByteArray} {pc b : Nat} {o : Int} (g : Int → Jvm.ClassFile.Instr) {f : Nat → Jvm.ClassFile.Decoder Jvm.ClassFile.Instr} (h : dcs1 c pc b o = true) (hb : b < 256) (hf : Jvm.ClassFile.Decoder.instr pc = (Jvm.ClassFile.Reader.u1 >>= f)) (hg : f b = (Jvm.ClassFile.Reader.s1 >>= fun x => Pure.pure (g x))) : decode c pc = .ok (g o, 2) := by
  unfold dcs1 at h
  split at h
  · rename_i a d l e
    rw [Bool.and_eq_true] at h
    have e1 := dcL_1 (dcL_T e)
    have h3 := of_decide_eq_true h.2
    refine dcK ((dcL_B e).trans (Nat.eq_of_beq_eq_true h.1)) hb hf ?_
    rw [hg]
    simp [Jvm.ClassFile.Reader.s1, Functor.map, StateT.map, bind, ReaderT.bind, StateT.bind, Except.bind, Pure.pure, ReaderT.pure, StateT.pure, Except.pure, e1, h3]
  · cases h
def dcq2 (c : ByteArray) (pc k i : Nat) : Bool := match dcL c pc with | a :: d :: e :: _ => Nat.beq a.toNat k && Nat.beq (d.toNat * 256 + e.toNat) i | _ => false
theorem dcK2 {c : ByteArray} {pc b i : Nat} (g : Nat → Jvm.ClassFile.Instr) {f : Nat → Jvm.ClassFile.Decoder Jvm.ClassFile.Instr} (h : dcq2 c pc b i = true) (hb : b < 256) (hf : Jvm.ClassFile.Decoder.instr pc = (Jvm.ClassFile.Reader.u1 >>= f)) (hg : f b = (Jvm.ClassFile.Reader.u2 >>= fun x => Pure.pure (g x))) : decode c pc = .ok (g i, 3) := by
  unfold dcq2 at h
  split at h
  · rename_i a d d2 l e
    rw [Bool.and_eq_true] at h
    have e1 := dcL_2 (dcL_T e)
    rw [Nat.eq_of_beq_eq_true h.2] at e1
    refine dcK ((dcL_B e).trans (Nat.eq_of_beq_eq_true h.1)) hb hf ?_
    rw [hg]
    simp [bind, ReaderT.bind, StateT.bind, Except.bind, Pure.pure, ReaderT.pure, StateT.pure, Except.pure, e1]
  · cases h
def dcs2 (c : ByteArray) (pc k : Nat) (o : Int) : Bool := match dcL c pc with | a :: d :: e :: _ => Nat.beq a.toNat k && decide (Jvm.ClassFile.Reader.signed 16 (d.toNat * 256 + e.toNat) = o) | _ => false
theorem dcKs2 {c : ByteArray} {pc b : Nat} {o : Int} (g : Int → Jvm.ClassFile.Instr) {f : Nat → Jvm.ClassFile.Decoder Jvm.ClassFile.Instr} (h : dcs2 c pc b o = true) (hb : b < 256) (hf : Jvm.ClassFile.Decoder.instr pc = (Jvm.ClassFile.Reader.u1 >>= f)) (hg : f b = (Jvm.ClassFile.Reader.s2 >>= fun x => Pure.pure (g x))) : decode c pc = .ok (g o, 3) := by
  unfold dcs2 at h
  split at h
  · rename_i a d d2 l e
    rw [Bool.and_eq_true] at h
    have e1 := dcL_2 (dcL_T e)
    have h3 := of_decide_eq_true h.2
    refine dcK ((dcL_B e).trans (Nat.eq_of_beq_eq_true h.1)) hb hf ?_
    rw [hg]
    have e5 : (Jvm.ClassFile.Reader.s2 : Jvm.ClassFile.Decoder Int) c (pc + 1) = .ok (o, pc + 3) := by
      simp [Jvm.ClassFile.Reader.s2, Functor.map, StateT.map, bind, ReaderT.bind, StateT.bind, Except.bind, Pure.pure, ReaderT.pure, StateT.pure, Except.pure, e1, h3]
    simp [bind, ReaderT.bind, StateT.bind, Except.bind, Pure.pure, ReaderT.pure, StateT.pure, Except.pure, e5]
  · cases h
set_option maxRecDepth 100000 in
theorem dc9_1 {c : ByteArray} {pc : Nat} (h : dcq0 c pc 1 = true) : decode c pc = .ok (.aconst_null, 1) := dcK0 h (by decide) rfl rfl
set_option maxRecDepth 100000 in
theorem dc9_2 {c : ByteArray} {pc : Nat} (h : dcq0 c pc 2 = true) : decode c pc = .ok (.iconst (-1), 1) := dcK0 h (by decide) rfl rfl
set_option maxRecDepth 100000 in
theorem dc9_3 {c : ByteArray} {pc : Nat} (h : dcq0 c pc 3 = true) : decode c pc = .ok (.iconst 0, 1) := dcK0 h (by decide) rfl rfl
set_option maxRecDepth 100000 in
theorem dc9_4 {c : ByteArray} {pc : Nat} (h : dcq0 c pc 4 = true) : decode c pc = .ok (.iconst 1, 1) := dcK0 h (by decide) rfl rfl
set_option maxRecDepth 100000 in
theorem dc9_5 {c : ByteArray} {pc : Nat} (h : dcq0 c pc 5 = true) : decode c pc = .ok (.iconst 2, 1) := dcK0 h (by decide) rfl rfl
set_option maxRecDepth 100000 in
theorem dc9_6 {c : ByteArray} {pc : Nat} (h : dcq0 c pc 6 = true) : decode c pc = .ok (.iconst 3, 1) := dcK0 h (by decide) rfl rfl
set_option maxRecDepth 100000 in
theorem dc9_7 {c : ByteArray} {pc : Nat} (h : dcq0 c pc 7 = true) : decode c pc = .ok (.iconst 4, 1) := dcK0 h (by decide) rfl rfl
set_option maxRecDepth 100000 in
theorem dc9_8 {c : ByteArray} {pc : Nat} (h : dcq0 c pc 8 = true) : decode c pc = .ok (.iconst 5, 1) := dcK0 h (by decide) rfl rfl
set_option maxRecDepth 100000 in
theorem dc9_9 {c : ByteArray} {pc : Nat} (h : dcq0 c pc 9 = true) : decode c pc = .ok (.lconst 0, 1) := dcK0 h (by decide) rfl rfl
set_option maxRecDepth 100000 in
theorem dc9_10 {c : ByteArray} {pc : Nat} (h : dcq0 c pc 10 = true) : decode c pc = .ok (.lconst 1, 1) := dcK0 h (by decide) rfl rfl
set_option maxRecDepth 100000 in
theorem dc9_16 {c : ByteArray} {pc : Nat} {o : Int} (h : dcs1 c pc 16 o = true) : decode c pc = .ok (.bipush o, 2) := dcKs1 .bipush h (by decide) rfl rfl
set_option maxRecDepth 100000 in
theorem dc9_17 {c : ByteArray} {pc : Nat} {o : Int} (h : dcs2 c pc 17 o = true) : decode c pc = .ok (.sipush o, 3) := dcKs2 (fun x => .sipush x) h (by decide) rfl rfl
set_option maxRecDepth 100000 in
theorem dc9_18 {c : ByteArray} {pc : Nat} {i : Nat} (h : dcq1 c pc 18 i = true) : decode c pc = .ok (.ldc i, 2) := dcK1 .ldc h (by decide) rfl rfl
set_option maxRecDepth 100000 in
theorem dc9_19 {c : ByteArray} {pc : Nat} {i : Nat} (h : dcq2 c pc 19 i = true) : decode c pc = .ok (.ldc_w i, 3) := dcK2 .ldc_w h (by decide) rfl rfl
set_option maxRecDepth 100000 in
theorem dc9_20 {c : ByteArray} {pc : Nat} {i : Nat} (h : dcq2 c pc 20 i = true) : decode c pc = .ok (.ldc2_w i, 3) := dcK2 .ldc2_w h (by decide) rfl rfl
set_option maxRecDepth 100000 in
theorem dc9_21 {c : ByteArray} {pc : Nat} {i : Nat} (h : dcq1 c pc 21 i = true) : decode c pc = .ok (.iload i, 2) := dcK1 .iload h (by decide) rfl rfl
set_option maxRecDepth 100000 in
theorem dc9_22 {c : ByteArray} {pc : Nat} {i : Nat} (h : dcq1 c pc 22 i = true) : decode c pc = .ok (.lload i, 2) := dcK1 .lload h (by decide) rfl rfl
set_option maxRecDepth 100000 in
theorem dc9_25 {c : ByteArray} {pc : Nat} {i : Nat} (h : dcq1 c pc 25 i = true) : decode c pc = .ok (.aload i, 2) := dcK1 .aload h (by decide) rfl rfl
set_option maxRecDepth 100000 in
theorem dc9_26 {c : ByteArray} {pc : Nat} (h : dcq0 c pc 26 = true) : decode c pc = .ok (.iload_n 0, 1) := dcK0 h (by decide) rfl rfl
set_option maxRecDepth 100000 in
theorem dc9_27 {c : ByteArray} {pc : Nat} (h : dcq0 c pc 27 = true) : decode c pc = .ok (.iload_n 1, 1) := dcK0 h (by decide) rfl rfl
set_option maxRecDepth 100000 in
theorem dc9_28 {c : ByteArray} {pc : Nat} (h : dcq0 c pc 28 = true) : decode c pc = .ok (.iload_n 2, 1) := dcK0 h (by decide) rfl rfl
set_option maxRecDepth 100000 in
theorem dc9_29 {c : ByteArray} {pc : Nat} (h : dcq0 c pc 29 = true) : decode c pc = .ok (.iload_n 3, 1) := dcK0 h (by decide) rfl rfl
set_option maxRecDepth 100000 in
theorem dc9_30 {c : ByteArray} {pc : Nat} (h : dcq0 c pc 30 = true) : decode c pc = .ok (.lload_n 0, 1) := dcK0 h (by decide) rfl rfl
set_option maxRecDepth 100000 in
theorem dc9_31 {c : ByteArray} {pc : Nat} (h : dcq0 c pc 31 = true) : decode c pc = .ok (.lload_n 1, 1) := dcK0 h (by decide) rfl rfl
set_option maxRecDepth 100000 in
theorem dc9_32 {c : ByteArray} {pc : Nat} (h : dcq0 c pc 32 = true) : decode c pc = .ok (.lload_n 2, 1) := dcK0 h (by decide) rfl rfl
set_option maxRecDepth 100000 in
theorem dc9_33 {c : ByteArray} {pc : Nat} (h : dcq0 c pc 33 = true) : decode c pc = .ok (.lload_n 3, 1) := dcK0 h (by decide) rfl rfl
set_option maxRecDepth 100000 in
theorem dc9_42 {c : ByteArray} {pc : Nat} (h : dcq0 c pc 42 = true) : decode c pc = .ok (.aload_n 0, 1) := dcK0 h (by decide) rfl rfl
set_option maxRecDepth 100000 in
theorem dc9_43 {c : ByteArray} {pc : Nat} (h : dcq0 c pc 43 = true) : decode c pc = .ok (.aload_n 1, 1) := dcK0 h (by decide) rfl rfl
set_option maxRecDepth 100000 in
theorem dc9_44 {c : ByteArray} {pc : Nat} (h : dcq0 c pc 44 = true) : decode c pc = .ok (.aload_n 2, 1) := dcK0 h (by decide) rfl rfl
set_option maxRecDepth 100000 in
theorem dc9_45 {c : ByteArray} {pc : Nat} (h : dcq0 c pc 45 = true) : decode c pc = .ok (.aload_n 3, 1) := dcK0 h (by decide) rfl rfl
set_option maxRecDepth 100000 in
theorem dc9_46 {c : ByteArray} {pc : Nat} (h : dcq0 c pc 46 = true) : decode c pc = .ok (.iaload, 1) := dcK0 h (by decide) rfl rfl
set_option maxRecDepth 100000 in
theorem dc9_47 {c : ByteArray} {pc : Nat} (h : dcq0 c pc 47 = true) : decode c pc = .ok (.laload, 1) := dcK0 h (by decide) rfl rfl
set_option maxRecDepth 100000 in
theorem dc9_50 {c : ByteArray} {pc : Nat} (h : dcq0 c pc 50 = true) : decode c pc = .ok (.aaload, 1) := dcK0 h (by decide) rfl rfl
set_option maxRecDepth 100000 in
theorem dc9_51 {c : ByteArray} {pc : Nat} (h : dcq0 c pc 51 = true) : decode c pc = .ok (.baload, 1) := dcK0 h (by decide) rfl rfl
set_option maxRecDepth 100000 in
theorem dc9_52 {c : ByteArray} {pc : Nat} (h : dcq0 c pc 52 = true) : decode c pc = .ok (.caload, 1) := dcK0 h (by decide) rfl rfl
set_option maxRecDepth 100000 in
theorem dc9_54 {c : ByteArray} {pc : Nat} {i : Nat} (h : dcq1 c pc 54 i = true) : decode c pc = .ok (.istore i, 2) := dcK1 .istore h (by decide) rfl rfl
set_option maxRecDepth 100000 in
theorem dc9_55 {c : ByteArray} {pc : Nat} {i : Nat} (h : dcq1 c pc 55 i = true) : decode c pc = .ok (.lstore i, 2) := dcK1 .lstore h (by decide) rfl rfl
set_option maxRecDepth 100000 in
theorem dc9_58 {c : ByteArray} {pc : Nat} {i : Nat} (h : dcq1 c pc 58 i = true) : decode c pc = .ok (.astore i, 2) := dcK1 .astore h (by decide) rfl rfl
set_option maxRecDepth 100000 in
theorem dc9_59 {c : ByteArray} {pc : Nat} (h : dcq0 c pc 59 = true) : decode c pc = .ok (.istore_n 0, 1) := dcK0 h (by decide) rfl rfl
set_option maxRecDepth 100000 in
theorem dc9_60 {c : ByteArray} {pc : Nat} (h : dcq0 c pc 60 = true) : decode c pc = .ok (.istore_n 1, 1) := dcK0 h (by decide) rfl rfl
set_option maxRecDepth 100000 in
theorem dc9_61 {c : ByteArray} {pc : Nat} (h : dcq0 c pc 61 = true) : decode c pc = .ok (.istore_n 2, 1) := dcK0 h (by decide) rfl rfl
set_option maxRecDepth 100000 in
theorem dc9_62 {c : ByteArray} {pc : Nat} (h : dcq0 c pc 62 = true) : decode c pc = .ok (.istore_n 3, 1) := dcK0 h (by decide) rfl rfl
set_option maxRecDepth 100000 in
theorem dc9_65 {c : ByteArray} {pc : Nat} (h : dcq0 c pc 65 = true) : decode c pc = .ok (.lstore_n 2, 1) := dcK0 h (by decide) rfl rfl
set_option maxRecDepth 100000 in
theorem dc9_66 {c : ByteArray} {pc : Nat} (h : dcq0 c pc 66 = true) : decode c pc = .ok (.lstore_n 3, 1) := dcK0 h (by decide) rfl rfl
set_option maxRecDepth 100000 in
theorem dc9_76 {c : ByteArray} {pc : Nat} (h : dcq0 c pc 76 = true) : decode c pc = .ok (.astore_n 1, 1) := dcK0 h (by decide) rfl rfl
set_option maxRecDepth 100000 in
theorem dc9_77 {c : ByteArray} {pc : Nat} (h : dcq0 c pc 77 = true) : decode c pc = .ok (.astore_n 2, 1) := dcK0 h (by decide) rfl rfl
set_option maxRecDepth 100000 in
theorem dc9_78 {c : ByteArray} {pc : Nat} (h : dcq0 c pc 78 = true) : decode c pc = .ok (.astore_n 3, 1) := dcK0 h (by decide) rfl rfl
set_option maxRecDepth 100000 in
theorem dc9_79 {c : ByteArray} {pc : Nat} (h : dcq0 c pc 79 = true) : decode c pc = .ok (.iastore, 1) := dcK0 h (by decide) rfl rfl
set_option maxRecDepth 100000 in
theorem dc9_80 {c : ByteArray} {pc : Nat} (h : dcq0 c pc 80 = true) : decode c pc = .ok (.lastore, 1) := dcK0 h (by decide) rfl rfl
set_option maxRecDepth 100000 in
theorem dc9_83 {c : ByteArray} {pc : Nat} (h : dcq0 c pc 83 = true) : decode c pc = .ok (.aastore, 1) := dcK0 h (by decide) rfl rfl
set_option maxRecDepth 100000 in
theorem dc9_84 {c : ByteArray} {pc : Nat} (h : dcq0 c pc 84 = true) : decode c pc = .ok (.bastore, 1) := dcK0 h (by decide) rfl rfl
set_option maxRecDepth 100000 in
theorem dc9_85 {c : ByteArray} {pc : Nat} (h : dcq0 c pc 85 = true) : decode c pc = .ok (.castore, 1) := dcK0 h (by decide) rfl rfl
set_option maxRecDepth 100000 in
theorem dc9_87 {c : ByteArray} {pc : Nat} (h : dcq0 c pc 87 = true) : decode c pc = .ok (.pop, 1) := dcK0 h (by decide) rfl rfl
set_option maxRecDepth 100000 in
theorem dc9_89 {c : ByteArray} {pc : Nat} (h : dcq0 c pc 89 = true) : decode c pc = .ok (.dup, 1) := dcK0 h (by decide) rfl rfl
set_option maxRecDepth 100000 in
theorem dc9_90 {c : ByteArray} {pc : Nat} (h : dcq0 c pc 90 = true) : decode c pc = .ok (.dup_x1, 1) := dcK0 h (by decide) rfl rfl
set_option maxRecDepth 100000 in
theorem dc9_92 {c : ByteArray} {pc : Nat} (h : dcq0 c pc 92 = true) : decode c pc = .ok (.dup2, 1) := dcK0 h (by decide) rfl rfl
set_option maxRecDepth 100000 in
theorem dc9_96 {c : ByteArray} {pc : Nat} (h : dcq0 c pc 96 = true) : decode c pc = .ok (.iadd, 1) := dcK0 h (by decide) rfl rfl
set_option maxRecDepth 100000 in
theorem dc9_97 {c : ByteArray} {pc : Nat} (h : dcq0 c pc 97 = true) : decode c pc = .ok (.ladd, 1) := dcK0 h (by decide) rfl rfl
set_option maxRecDepth 100000 in
theorem dc9_100 {c : ByteArray} {pc : Nat} (h : dcq0 c pc 100 = true) : decode c pc = .ok (.isub, 1) := dcK0 h (by decide) rfl rfl
set_option maxRecDepth 100000 in
theorem dc9_101 {c : ByteArray} {pc : Nat} (h : dcq0 c pc 101 = true) : decode c pc = .ok (.lsub, 1) := dcK0 h (by decide) rfl rfl
set_option maxRecDepth 100000 in
theorem dc9_104 {c : ByteArray} {pc : Nat} (h : dcq0 c pc 104 = true) : decode c pc = .ok (.imul, 1) := dcK0 h (by decide) rfl rfl
set_option maxRecDepth 100000 in
theorem dc9_105 {c : ByteArray} {pc : Nat} (h : dcq0 c pc 105 = true) : decode c pc = .ok (.lmul, 1) := dcK0 h (by decide) rfl rfl
set_option maxRecDepth 100000 in
theorem dc9_108 {c : ByteArray} {pc : Nat} (h : dcq0 c pc 108 = true) : decode c pc = .ok (.idiv, 1) := dcK0 h (by decide) rfl rfl
set_option maxRecDepth 100000 in
theorem dc9_109 {c : ByteArray} {pc : Nat} (h : dcq0 c pc 109 = true) : decode c pc = .ok (.ldiv, 1) := dcK0 h (by decide) rfl rfl
set_option maxRecDepth 100000 in
theorem dc9_112 {c : ByteArray} {pc : Nat} (h : dcq0 c pc 112 = true) : decode c pc = .ok (.irem, 1) := dcK0 h (by decide) rfl rfl
set_option maxRecDepth 100000 in
theorem dc9_113 {c : ByteArray} {pc : Nat} (h : dcq0 c pc 113 = true) : decode c pc = .ok (.lrem, 1) := dcK0 h (by decide) rfl rfl
set_option maxRecDepth 100000 in
theorem dc9_116 {c : ByteArray} {pc : Nat} (h : dcq0 c pc 116 = true) : decode c pc = .ok (.ineg, 1) := dcK0 h (by decide) rfl rfl
set_option maxRecDepth 100000 in
theorem dc9_117 {c : ByteArray} {pc : Nat} (h : dcq0 c pc 117 = true) : decode c pc = .ok (.lneg, 1) := dcK0 h (by decide) rfl rfl
set_option maxRecDepth 100000 in
theorem dc9_120 {c : ByteArray} {pc : Nat} (h : dcq0 c pc 120 = true) : decode c pc = .ok (.ishl, 1) := dcK0 h (by decide) rfl rfl
set_option maxRecDepth 100000 in
theorem dc9_121 {c : ByteArray} {pc : Nat} (h : dcq0 c pc 121 = true) : decode c pc = .ok (.lshl, 1) := dcK0 h (by decide) rfl rfl
set_option maxRecDepth 100000 in
theorem dc9_122 {c : ByteArray} {pc : Nat} (h : dcq0 c pc 122 = true) : decode c pc = .ok (.ishr, 1) := dcK0 h (by decide) rfl rfl
set_option maxRecDepth 100000 in
theorem dc9_123 {c : ByteArray} {pc : Nat} (h : dcq0 c pc 123 = true) : decode c pc = .ok (.lshr, 1) := dcK0 h (by decide) rfl rfl
set_option maxRecDepth 100000 in
theorem dc9_124 {c : ByteArray} {pc : Nat} (h : dcq0 c pc 124 = true) : decode c pc = .ok (.iushr, 1) := dcK0 h (by decide) rfl rfl
set_option maxRecDepth 100000 in
theorem dc9_125 {c : ByteArray} {pc : Nat} (h : dcq0 c pc 125 = true) : decode c pc = .ok (.lushr, 1) := dcK0 h (by decide) rfl rfl
set_option maxRecDepth 100000 in
theorem dc9_126 {c : ByteArray} {pc : Nat} (h : dcq0 c pc 126 = true) : decode c pc = .ok (.iand, 1) := dcK0 h (by decide) rfl rfl
set_option maxRecDepth 100000 in
theorem dc9_127 {c : ByteArray} {pc : Nat} (h : dcq0 c pc 127 = true) : decode c pc = .ok (.land, 1) := dcK0 h (by decide) rfl rfl
set_option maxRecDepth 100000 in
theorem dc9_128 {c : ByteArray} {pc : Nat} (h : dcq0 c pc 128 = true) : decode c pc = .ok (.ior, 1) := dcK0 h (by decide) rfl rfl
set_option maxRecDepth 100000 in
theorem dc9_130 {c : ByteArray} {pc : Nat} (h : dcq0 c pc 130 = true) : decode c pc = .ok (.ixor, 1) := dcK0 h (by decide) rfl rfl
set_option maxRecDepth 100000 in
theorem dc9_133 {c : ByteArray} {pc : Nat} (h : dcq0 c pc 133 = true) : decode c pc = .ok (.i2l, 1) := dcK0 h (by decide) rfl rfl
set_option maxRecDepth 100000 in
theorem dc9_136 {c : ByteArray} {pc : Nat} (h : dcq0 c pc 136 = true) : decode c pc = .ok (.l2i, 1) := dcK0 h (by decide) rfl rfl
set_option maxRecDepth 100000 in
theorem dc9_146 {c : ByteArray} {pc : Nat} (h : dcq0 c pc 146 = true) : decode c pc = .ok (.i2c, 1) := dcK0 h (by decide) rfl rfl
set_option maxRecDepth 100000 in
theorem dc9_148 {c : ByteArray} {pc : Nat} (h : dcq0 c pc 148 = true) : decode c pc = .ok (.lcmp, 1) := dcK0 h (by decide) rfl rfl
set_option maxRecDepth 100000 in
theorem dc9_153 {c : ByteArray} {pc : Nat} {o : Int} (h : dcs2 c pc 153 o = true) : decode c pc = .ok (.ifCond .eq o, 3) := dcKs2 (fun x => .ifCond .eq x) h (by decide) rfl rfl
set_option maxRecDepth 100000 in
theorem dc9_154 {c : ByteArray} {pc : Nat} {o : Int} (h : dcs2 c pc 154 o = true) : decode c pc = .ok (.ifCond .ne o, 3) := dcKs2 (fun x => .ifCond .ne x) h (by decide) rfl rfl
set_option maxRecDepth 100000 in
theorem dc9_155 {c : ByteArray} {pc : Nat} {o : Int} (h : dcs2 c pc 155 o = true) : decode c pc = .ok (.ifCond .lt o, 3) := dcKs2 (fun x => .ifCond .lt x) h (by decide) rfl rfl
set_option maxRecDepth 100000 in
theorem dc9_156 {c : ByteArray} {pc : Nat} {o : Int} (h : dcs2 c pc 156 o = true) : decode c pc = .ok (.ifCond .ge o, 3) := dcKs2 (fun x => .ifCond .ge x) h (by decide) rfl rfl
set_option maxRecDepth 100000 in
theorem dc9_157 {c : ByteArray} {pc : Nat} {o : Int} (h : dcs2 c pc 157 o = true) : decode c pc = .ok (.ifCond .gt o, 3) := dcKs2 (fun x => .ifCond .gt x) h (by decide) rfl rfl
set_option maxRecDepth 100000 in
theorem dc9_158 {c : ByteArray} {pc : Nat} {o : Int} (h : dcs2 c pc 158 o = true) : decode c pc = .ok (.ifCond .le o, 3) := dcKs2 (fun x => .ifCond .le x) h (by decide) rfl rfl
set_option maxRecDepth 100000 in
theorem dc9_159 {c : ByteArray} {pc : Nat} {o : Int} (h : dcs2 c pc 159 o = true) : decode c pc = .ok (.if_icmp .eq o, 3) := dcKs2 (fun x => .if_icmp .eq x) h (by decide) rfl rfl
set_option maxRecDepth 100000 in
theorem dc9_160 {c : ByteArray} {pc : Nat} {o : Int} (h : dcs2 c pc 160 o = true) : decode c pc = .ok (.if_icmp .ne o, 3) := dcKs2 (fun x => .if_icmp .ne x) h (by decide) rfl rfl
set_option maxRecDepth 100000 in
theorem dc9_161 {c : ByteArray} {pc : Nat} {o : Int} (h : dcs2 c pc 161 o = true) : decode c pc = .ok (.if_icmp .lt o, 3) := dcKs2 (fun x => .if_icmp .lt x) h (by decide) rfl rfl
set_option maxRecDepth 100000 in
theorem dc9_162 {c : ByteArray} {pc : Nat} {o : Int} (h : dcs2 c pc 162 o = true) : decode c pc = .ok (.if_icmp .ge o, 3) := dcKs2 (fun x => .if_icmp .ge x) h (by decide) rfl rfl
set_option maxRecDepth 100000 in
theorem dc9_163 {c : ByteArray} {pc : Nat} {o : Int} (h : dcs2 c pc 163 o = true) : decode c pc = .ok (.if_icmp .gt o, 3) := dcKs2 (fun x => .if_icmp .gt x) h (by decide) rfl rfl
set_option maxRecDepth 100000 in
theorem dc9_164 {c : ByteArray} {pc : Nat} {o : Int} (h : dcs2 c pc 164 o = true) : decode c pc = .ok (.if_icmp .le o, 3) := dcKs2 (fun x => .if_icmp .le x) h (by decide) rfl rfl
set_option maxRecDepth 100000 in
theorem dc9_167 {c : ByteArray} {pc : Nat} {o : Int} (h : dcs2 c pc 167 o = true) : decode c pc = .ok (.goto o, 3) := dcKs2 (fun x => .goto x) h (by decide) rfl rfl
set_option maxRecDepth 100000 in
theorem dc9_172 {c : ByteArray} {pc : Nat} (h : dcq0 c pc 172 = true) : decode c pc = .ok (.ireturn, 1) := dcK0 h (by decide) rfl rfl
set_option maxRecDepth 100000 in
theorem dc9_173 {c : ByteArray} {pc : Nat} (h : dcq0 c pc 173 = true) : decode c pc = .ok (.lreturn, 1) := dcK0 h (by decide) rfl rfl
set_option maxRecDepth 100000 in
theorem dc9_176 {c : ByteArray} {pc : Nat} (h : dcq0 c pc 176 = true) : decode c pc = .ok (.areturn, 1) := dcK0 h (by decide) rfl rfl
set_option maxRecDepth 100000 in
theorem dc9_177 {c : ByteArray} {pc : Nat} (h : dcq0 c pc 177 = true) : decode c pc = .ok (.return_, 1) := dcK0 h (by decide) rfl rfl
set_option maxRecDepth 100000 in
theorem dc9_178 {c : ByteArray} {pc : Nat} {i : Nat} (h : dcq2 c pc 178 i = true) : decode c pc = .ok (.getstatic i, 3) := dcK2 .getstatic h (by decide) rfl rfl
set_option maxRecDepth 100000 in
theorem dc9_180 {c : ByteArray} {pc : Nat} {i : Nat} (h : dcq2 c pc 180 i = true) : decode c pc = .ok (.getfield i, 3) := dcK2 .getfield h (by decide) rfl rfl
set_option maxRecDepth 100000 in
theorem dc9_181 {c : ByteArray} {pc : Nat} {i : Nat} (h : dcq2 c pc 181 i = true) : decode c pc = .ok (.putfield i, 3) := dcK2 .putfield h (by decide) rfl rfl
set_option maxRecDepth 100000 in
theorem dc9_182 {c : ByteArray} {pc : Nat} {i : Nat} (h : dcq2 c pc 182 i = true) : decode c pc = .ok (.invokevirtual i, 3) := dcK2 .invokevirtual h (by decide) rfl rfl
set_option maxRecDepth 100000 in
theorem dc9_183 {c : ByteArray} {pc : Nat} {i : Nat} (h : dcq2 c pc 183 i = true) : decode c pc = .ok (.invokespecial i, 3) := dcK2 .invokespecial h (by decide) rfl rfl
set_option maxRecDepth 100000 in
theorem dc9_184 {c : ByteArray} {pc : Nat} {i : Nat} (h : dcq2 c pc 184 i = true) : decode c pc = .ok (.invokestatic i, 3) := dcK2 .invokestatic h (by decide) rfl rfl
set_option maxRecDepth 100000 in
theorem dc9_187 {c : ByteArray} {pc : Nat} {i : Nat} (h : dcq2 c pc 187 i = true) : decode c pc = .ok (.new i, 3) := dcK2 .new h (by decide) rfl rfl
set_option maxRecDepth 100000 in
theorem dc9_189 {c : ByteArray} {pc : Nat} {i : Nat} (h : dcq2 c pc 189 i = true) : decode c pc = .ok (.anewarray i, 3) := dcK2 .anewarray h (by decide) rfl rfl
set_option maxRecDepth 100000 in
theorem dc9_190 {c : ByteArray} {pc : Nat} (h : dcq0 c pc 190 = true) : decode c pc = .ok (.arraylength, 1) := dcK0 h (by decide) rfl rfl
set_option maxRecDepth 100000 in
theorem dc9_198 {c : ByteArray} {pc : Nat} {o : Int} (h : dcs2 c pc 198 o = true) : decode c pc = .ok (.ifnull o, 3) := dcKs2 (fun x => .ifnull x) h (by decide) rfl rfl
set_option maxRecDepth 100000 in
theorem dc9_199 {c : ByteArray} {pc : Nat} {o : Int} (h : dcs2 c pc 199 o = true) : decode c pc = .ok (.ifnonnull o, 3) := dcKs2 (fun x => .ifnonnull x) h (by decide) rfl rfl
end
end
section
/-! THE FLAT MACHINE: values are whole numbers and addresses, the heap is flat (kind, length, ints, longs, references by address and place); an exact run of a method is a proposition (mEv), and what a run must come to is asked of it backwards (mWm). -/
abbrev mV : Type := Int ⊕ Int ⊕ Nat ⊕ Option Nat
abbrev vi (x : Int) : mV := Sum.inl x
abbrev vl (x : Int) : mV := Sum.inr (Sum.inl x)
abbrev vr (a : Nat) : mV := Sum.inr (Sum.inr (Sum.inl a))
abbrev vd : mV := Sum.inr (Sum.inr (Sum.inr none))
/-- a reference to an old cell (a string, the law's array): it may be address 0 -/
abbrev vo (a : Nat) : mV := Sum.inr (Sum.inr (Sum.inr (some a)))
def mrv (a : Nat) : Value := if a = 0 then .null else .ref a
def mcv : mV → Value
  | .inl x => .int (Int32.ofInt x)
  | .inr (.inl x) => .long (Int64.ofInt x)
  | .inr (.inr (.inl a)) => mrv a
  | .inr (.inr (.inr none)) => .null
  | .inr (.inr (.inr (some a))) => .ref a
def mLive : mV → Bool
  | .inr (.inr (.inr none)) => false
  | _ => true
def mcat : mV → Nat
  | .inr (.inl _) => 2
  | _ => 1
theorem mcat_mcv (v : mV) : (mcv v).category = mcat v := by
  rcases v with x | x | a | u
  · rfl
  · rfl
  · show (mrv a).category = 1
    unfold mrv
    split <;> rfl
  · cases u <;> rfl
def i32 (x : Int) : Prop := -2147483648 ≤ x ∧ x < 2147483648
def i64 (x : Int) : Prop := -9223372036854775808 ≤ x ∧ x < 9223372036854775808
theorem i32_toInt {x : Int} (h : i32 x) : (Int32.ofInt x).toInt = x := by
  obtain ⟨h1, h2⟩ := h
  rw [Int32.toInt_ofInt, show Int32.size = 4294967296 from rfl]
  exact Int.bmod_eq_of_le (by omega) (by omega)
theorem i64_toInt {x : Int} (h : i64 x) : (Int64.ofInt x).toInt = x := by
  obtain ⟨h1, h2⟩ := h
  rw [Int64.toInt_ofInt, show Int64.size = 18446744073709551616 from rfl]
  exact Int.bmod_eq_of_le (by omega) (by omega)
theorem i32_lt {x y : Int} (hx : i32 x) (hy : i32 y) : Int32.ofInt x < Int32.ofInt y ↔ x < y := by
  rw [Int32.lt_iff_toInt_lt, i32_toInt hx, i32_toInt hy]
theorem i32_le {x y : Int} (hx : i32 x) (hy : i32 y) : Int32.ofInt x ≤ Int32.ofInt y ↔ x ≤ y := by
  rw [Int32.le_iff_toInt_le, i32_toInt hx, i32_toInt hy]
theorem i32_eq {x y : Int} (hx : i32 x) (hy : i32 y) : Int32.ofInt x = Int32.ofInt y ↔ x = y := by
  rw [← Int32.toInt_inj, i32_toInt hx, i32_toInt hy]
theorem i64_lt {x y : Int} (hx : i64 x) (hy : i64 y) : Int64.ofInt x < Int64.ofInt y ↔ x < y := by
  rw [Int64.lt_iff_toInt_lt, i64_toInt hx, i64_toInt hy]
theorem i64_eq {x y : Int} (hx : i64 x) (hy : i64 y) : Int64.ofInt x = Int64.ofInt y ↔ x = y := by
  rw [← Int64.toInt_inj, i64_toInt hx, i64_toInt hy]
theorem i32_clamp {x : Int} (h : i32 x) : (Int32.ofInt x).toNatClampNeg = x.toNat := by
  show (Int32.ofInt x).toInt.toNat = x.toNat
  rw [i32_toInt h]
theorem i32_0 : i32 0 := ⟨by decide, by decide⟩
theorem i32_lt0 {x : Int} (hx : i32 x) : Int32.ofInt x < 0 ↔ x < 0 := i32_lt hx i32_0
theorem i32_gt0 {x : Int} (hx : i32 x) : 0 < Int32.ofInt x ↔ 0 < x := i32_lt i32_0 hx
theorem i32_le0 {x : Int} (hx : i32 x) : Int32.ofInt x ≤ 0 ↔ x ≤ 0 := i32_le hx i32_0
theorem i32_ge0 {x : Int} (hx : i32 x) : 0 ≤ Int32.ofInt x ↔ 0 ≤ x := i32_le i32_0 hx
theorem i32_eq0 {x : Int} (hx : i32 x) : Int32.ofInt x = 0 ↔ x = 0 := i32_eq hx i32_0
/-- the index lies in an array of n places -/
theorem i32_in {x : Int} {n : Nat} (h : 0 ≤ x ∧ x < n) (hn : n < 2147483648) : ¬ (Int32.ofInt x < 0 ∨ n ≤ (Int32.ofInt x).toNatClampNeg) := by
  have hx : i32 x := ⟨by omega, by omega⟩
  rw [i32_lt0 hx, i32_clamp hx]
  omega
/-! the heap -/
abbrev mM : Type := (Nat → Nat) × (Nat → Nat) × (Nat → Nat → Int) × (Nat → Nat → Int) × (Nat → Nat → Nat) × Nat × Nat
def mK (M : mM) : Nat → Nat := M.1
def mN (M : mM) : Nat → Nat := M.2.1
def mI (M : mM) : Nat → Nat → Int := M.2.2.1
def mL (M : mM) : Nat → Nat → Int := M.2.2.2.1
def mR (M : mM) : Nat → Nat → Nat := M.2.2.2.2.1
def mZ (M : mM) : Nat := M.2.2.2.2.2.1
def mS (M : mM) : Nat := M.2.2.2.2.2.2
def up2 {α : Type} (f : Nat → Nat → α) (a j : Nat) (x : α) : Nat → Nat → α := fun b k => if b = a ∧ k = j then x else f b k
def mUI (M : mM) (a j : Nat) (x : Int) : mM := (mK M, mN M, up2 (mI M) a j x, mL M, mR M, mZ M, mS M)
def mUL (M : mM) (a j : Nat) (x : Int) : mM := (mK M, mN M, mI M, up2 (mL M) a j x, mR M, mZ M, mS M)
def mUR (M : mM) (a j : Nat) (x : Nat) : mM := (mK M, mN M, mI M, mL M, up2 (mR M) a j x, mZ M, mS M)
def mNew (M : mM) (k n c : Nat) : mM := (fun b => if b = mZ M then k else mK M b, fun b => if b = mZ M then n else mN M b, fun b j => if b = mZ M then 0 else mI M b j, fun b j => if b = mZ M then 0 else mL M b j, fun b j => if b = mZ M then 0 else mR M b j, mZ M + 1, mS M + c)
section Reads
variable (M : mM) (a j b k n c : Nat) (x : Int) (r : Nat)
theorem mK_UI : mK (mUI M a j x) = mK M := rfl
theorem mN_UI : mN (mUI M a j x) = mN M := rfl
theorem mI_UI : mI (mUI M a j x) b k = if b = a ∧ k = j then x else mI M b k := rfl
theorem mL_UI : mL (mUI M a j x) = mL M := rfl
theorem mR_UI : mR (mUI M a j x) = mR M := rfl
theorem mZ_UI : mZ (mUI M a j x) = mZ M := rfl
theorem mS_UI : mS (mUI M a j x) = mS M := rfl
theorem mL_UL : mL (mUL M a j x) b k = if b = a ∧ k = j then x else mL M b k := rfl
theorem mK_UR : mK (mUR M a j r) = mK M := rfl
theorem mN_UR : mN (mUR M a j r) = mN M := rfl
theorem mI_UR : mI (mUR M a j r) = mI M := rfl
theorem mL_UR : mL (mUR M a j r) = mL M := rfl
theorem mR_UR : mR (mUR M a j r) b k = if b = a ∧ k = j then r else mR M b k := rfl
theorem mZ_UR : mZ (mUR M a j r) = mZ M := rfl
theorem mS_UR : mS (mUR M a j r) = mS M := rfl
theorem mK_New : mK (mNew M k n c) b = if b = mZ M then k else mK M b := rfl
theorem mN_New : mN (mNew M k n c) b = if b = mZ M then n else mN M b := rfl
theorem mI_New : mI (mNew M k n c) b j = if b = mZ M then 0 else mI M b j := rfl
theorem mL_New : mL (mNew M k n c) b j = if b = mZ M then 0 else mL M b j := rfl
theorem mR_New : mR (mNew M k n c) b j = if b = mZ M then 0 else mR M b j := rfl
theorem mZ_New : mZ (mNew M k n c) = mZ M + 1 := rfl
theorem mS_New : mS (mNew M k n c) = mS M + c := rfl
end Reads
/-- all numbers of the heap are ints, or longs -/
def mOk (M : mM) : Prop := ∀ a j, i32 (mI M a j) ∧ i64 (mL M a j)
def fV (ty : FieldType) (M : mM) (a k : Nat) : Value := match ty with
  | .long => mcv (vl (mL M a k))
  | .object _ => mrv (mR M a k)
  | .array _ => mrv (mR M a k)
  | _ => mcv (vi (mI M a k))
def vwTy : List (Nat → FieldType) := [t_CA, t_Wo, t_TR, t_RR, t_Ma, t_Pr, t_Ga, t_So, t_Sc, t_Na, t_Fr, t_Re, t_Fs, t_MM, t_MN, t_MG, t_MS, t_MU, t_MF, t_MW]
def arTy : List FieldType := [.int, .boolean, .char, .long, .object "ChanceArena$Natural", .object "ChanceArena$Fraction", .object "ChanceArenaModel$Fraction"]
/-- launch, classes, array classes, the law's start, where its own cells begin -/
abbrev mG : Type := Launch × va_G × (Nat → ClassId) × State × Nat
def gL (G : mG) : Launch := G.1
def gD (G : mG) : va_G := G.2.1
def gA (G : mG) : Nat → ClassId := G.2.2.1
def gS (G : mG) : State := G.2.2.2.1
def gB (G : mG) : Nat := G.2.2.2.2
/-- the class's table of primes -/
def prL : List Int := [1073741789, 1073741783, 1073741741, 1073741723, 1073741719, 1073741717, 1073741689, 1073741671, 1073741663, 1073741651, 1073741621, 1073741567, 1073741561, 1073741527, 1073741503, 1073741477, 1073741467, 1073741441, 1073741419, 1073741399, 1073741387, 1073741381, 1073741371, 1073741329, 1073741311, 1073741309, 1073741287, 1073741237, 1073741213, 1073741197, 1073741189, 1073741173, 1073741101, 1073741077, 1073741047, 1073740963]
def mOwn (G : mG) : Addr → Prop := fun q => gB G ≤ q
def gPr (G : mG) : Prop := ∃ t : Nat, va_Z "ChanceArena$Residues" "PRIMES" "[I" (.ref t) (mOwn G) (gS G) (gS G).heap ∧ va_T .int t 36 (fun j => .int (Int32.ofInt (prL.getD j 0))) (mOwn G) (gS G) (gS G).heap
def mRepO (G : mG) (M : mM) (H : Heap) (a : Nat) : Prop := ∀ (c : Nat) (r : vw_C) (t : Nat → FieldType), mK M a = c + 1 → vwCl[c]? = some r → vwTy[c]? = some t → gB G ≤ a ∧ t_OB a ((gD G).1 c) r.2.2 ((gD G).2 c) H (fun k => fV (t k) M a k)
def mRepA (G : mG) (M : mM) (H : Heap) (a : Nat) : Prop := ∀ (t : Nat) (ty : FieldType), mK M a = 30 + t → arTy[t]? = some ty → gB G ≤ a ∧ mN M a < 2147483648 ∧ H[a]? = some (arrV (gA G t) (mN M a) (fun j => fV ty M a j))
/-- old arrays of ints, only read -/
def mRepP (G : mG) (M : mM) (H : Heap) (a : Nat) : Prop := mK M a = 40 → a < gB G ∧ mN M a < 2147483648 ∧ ∃ cell : Cell, H[a]? = some cell ∧ (gS G).isArrayOf cell .int ∧ cell.vm ≠ .unknown ∧ cell.slots.size = mN M a ∧ ∀ j, j < mN M a → cell.slots[j]? = some (mcv (vi (mI M a j)))
def mRep (G : mG) (M : mM) (H : Heap) : Prop :=
  H.size = mZ M ∧ (0 < gB G ∧ gPr G) ∧ gB G ≤ mZ M ∧ mOk M ∧ (∀ q, q < gB G → H[q]? = (gS G).heap[q]?) ∧ (∀ a, mZ M ≤ a → mK M a = 0) ∧ ∀ a, mRepO G M H a ∧ mRepA G M H a ∧ mRepP G M H a
/-- a method: its name, code, locals, answer -/
abbrev mY : Type := MethodName × ByteArray × Nat × Option FieldType
abbrev yC (y : mY) : Cond := Cond.code y.1 y.2.1 y.2.2.1 y.2.2.2
/-- the tables are those of the law's start, but warmer; its string constants lie where they lay -/
def mAl (G : mG) (U : State) : Prop := (gS G).vm.Alike U.vm ∧ ∀ (own : String) (k : Nat) (tx : String) (a : Nat), vk_R own k tx a (gS G) → vk_R own k tx a U
theorem mAl.moved {G : mG} {s U : State} (h : mAl G s) (hW : s.WarmedH U.vm) : mAl G U := ⟨h.1.trans hW.alike, fun own k tx a q => vk_R.warm hW (h.2 own k tx a q)⟩
def mPre (G : mG) (M : mM) (U : State) : Prop := mRep G M U.heap ∧ va_K (gD G) vwCl (zT (gA G)) U ∧ zH U ∧ mAl G U
def mQ (G : mG) (r : Option mV) (M' : mM) : Array Value → State → Outcome → State → Prop := fun _ _ oc t => oc = .returned (r.map mcv) ∧ mRep G M' t.heap
/-- the contract of an exact run -/
def mCl (G : mG) (y : mY) (d : Nat) (args : List mV) (M : mM) (r : Option mV) (M' : mM) : Prop :=
  (mZ M ≤ mZ M' ∧ mS M ≤ mS M') ∧ Met (gL G) y.1 (zW (yC y)) { frames := d, cells := mZ M' - mZ M, slots := mS M' - mS M, locals := 64 * d } (va_Pc (args.map mcv) (mPre G M)) (mQ G r M') (mZ M' - mZ M) (mS M' - mS M) (mOwn G)
/-- the place in which a method's instructions run -/
def mAt (G : mG) (y : mY) (d : Nat) (p : Program) (R : Room) (s : State) (m : MethodId) (args : Array Value) (meth : Method) (c : Code) : Prop :=
  p.tables.exec = Jvm.exec ∧ c.code = y.2.1 ∧ c.maxLocals = y.2.2.1 ∧ meth.sig.returnType = y.2.2.2 ∧ meth.locks = false ∧ meth.name = y.1.name ∧ s.vm.findClass y.1.cls = some m.cls ∧ va_K (gD G) vwCl (zT (gA G)) s ∧ (∀ w ∈ lw_R, w.before args s = true) ∧ zH s ∧ mAl G s ∧ d ≤ R.frames ∧ 64 * d ≤ R.locals
def mLs (ls : Array Slot) (nL : Nat) (L : List mV) : Prop := ls.size = nL ∧ lv_wf ls ∧ ∀ (i : Nat) (v : mV), L[i]? = some v → mLive v = true → ls[i]? = some (.val (mcv v))
def mEv (G : mG) (y : mY) (d pc : Nat) (L st : List mV) (M : mM) (r : Option mV) (M' : mM) : Prop :=
  (mZ M ≤ mZ M' ∧ mS M ≤ mS M') ∧
  ∀ (p : Program) (e : Env) (R : Room) (s : State) (m : MethodId) (args : Array Value) (below : List Frame) (meth : Method) (c : Code) (H : Heap) (locs : List Loc) (cells slots : Nat) (ls : Array Slot),
    mAt G y d p R s m args meth c → mRep G M H → (∀ q ∈ locs, mOwn G q.base) → cells + (mZ M' - mZ M) ≤ R.cells → slots + (mS M' - mS M) ≤ R.slots → mLs ls y.2.2.1 L →
    W p (gL G) e R s m args below meth c H locs cells slots (MQ below (mQ G r M') args s (cells + (mZ M' - mZ M)) (slots + (mS M' - mS M)) (mOwn G)) (F0 m pc ls (st.map mcv))
def mWm (G : mG) (y : mY) (d pc : Nat) (L st : List mV) (M : mM) (Q : Option mV → mM → Prop) : Prop := ∃ r M', mEv G y d pc L st M r M' ∧ Q r M'
def mCm (G : mG) (y : mY) (d : Nat) (args : List mV) (M : mM) (Q : Option mV → mM → Prop) : Prop := ∃ r M', mCl G y d args M r M' ∧ Q r M'
theorem mCm.mono {G : mG} {y : mY} {d : Nat} {args : List mV} {M : mM} {Q Q' : Option mV → mM → Prop} (h : mCm G y d args M Q) (hq : ∀ r M', Q r M' → Q' r M') : mCm G y d args M Q' := by
  obtain ⟨r, M', h1, h2⟩ := h
  exact ⟨r, M', h1, hq r M' h2⟩
theorem mWm.mono {G : mG} {y : mY} {d pc : Nat} {L st : List mV} {M : mM} {Q Q' : Option mV → mM → Prop} (h : mWm G y d pc L st M Q) (hq : ∀ r M', Q r M' → Q' r M') : mWm G y d pc L st M Q' := by
  obtain ⟨r, M', h1, h2⟩ := h
  exact ⟨r, M', h1, hq r M' h2⟩
/-! locals -/
def mTo (L : List mV) : List (Nat × Value) := (L.zipIdx.filter (fun q => mLive q.1)).map (fun q => (q.2, mcv q.1))
theorem mTo_mem {L : List mV} {q : Nat × Value} : q ∈ mTo L ↔ ∃ v, L[q.1]? = some v ∧ mLive v = true ∧ q.2 = mcv v := by
  unfold mTo
  constructor
  · intro h
    obtain ⟨⟨v, i⟩, h1, h2⟩ := List.mem_map.mp h
    obtain ⟨h3, h4⟩ := List.mem_filter.mp h1
    subst h2
    exact ⟨v, List.mem_zipIdx_iff_getElem?.mp h3, h4, rfl⟩
  · rintro ⟨v, h1, h2, h3⟩
    refine List.mem_map.mpr ⟨(v, q.1), List.mem_filter.mpr ⟨List.mem_zipIdx_iff_getElem?.mpr h1, h2⟩, ?_⟩
    exact Prod.ext rfl h3.symm
theorem mLs.has {ls : Array Slot} {nL : Nat} {L : List mV} (h : mLs ls nL L) : lv_has ls nL (mTo L) := by
  refine ⟨h.1, h.2.1, fun q hq => ?_⟩
  obtain ⟨v, h1, h2, h3⟩ := mTo_mem.mp hq
  rw [h3]
  exact h.2.2 _ v h1 h2
theorem mLs.at {ls : Array Slot} {nL : Nat} {L : List mV} (h : mLs ls nL L) {i : Nat} {v : mV} (hv : L[i]? = some v) (hl : mLive v = true) : ls[i]? = some (.val (mcv v)) := h.2.2 i v hv hl
/-- a long that stands just ahead is gone -/
def mKill (L : List mV) : Nat → List mV
  | 0 => L
  | j + 1 => match L[j]? with
    | some (.inr (.inl _)) => L.set j vd
    | _ => L
def mSto (L : List mV) (i : Nat) (x : mV) : List mV := (mKill L i).set i x
def mSto2 (L : List mV) (i : Nat) (x : mV) : List mV := ((mKill L i).set i x).set (i + 1) vd
theorem mKill_at {L : List mV} {i j : Nat} {v : mV} (h : (mKill L i)[j]? = some v) (hl : mLive v = true) : L[j]? = some v ∧ ¬ (j + 1 = i ∧ mcat v = 2) := by
  cases i with
  | zero => exact ⟨h, by omega⟩
  | succ k =>
    simp only [mKill] at h
    split at h
    · by_cases hj : k = j
      · subst hj
        rw [List.getElem?_set] at h
        simp only [if_true] at h
        split at h
        · have h2 := Option.some.inj h
          subst h2
          cases hl
        · cases h
      · rw [List.getElem?_set_ne hj] at h
        exact ⟨h, by omega⟩
    · refine ⟨h, fun q => ?_⟩
      obtain ⟨q1, q2⟩ := q
      have hj : j = k := by omega
      subst hj
      rcases v with x | x | a | u
      · cases q2
      · rename_i h9; exact h9 x h
      · cases q2
      · cases q2
theorem mLs.sto {ls' : Array Slot} {nL : Nat} {L : List mV} {i : Nat} {x : mV} (h : lv_has ls' nL ((i, mcv x) :: (mTo L).filter (fun q => !(q.1 == i) && !(q.1 + 1 == i && q.2.category == 2)))) : mLs ls' nL (mSto L i x) := by
  refine ⟨h.1, h.2.1, fun j v hj hl => ?_⟩
  by_cases e : i = j
  · subst e
    unfold mSto at hj
    rw [List.getElem?_set] at hj
    simp only [if_true] at hj
    split at hj
    · have h2 := Option.some.inj hj
      subst h2
      exact h.2.2 (i, mcv x) List.mem_cons_self
    · cases hj
  · unfold mSto at hj
    rw [List.getElem?_set_ne e] at hj
    obtain ⟨h1, h2⟩ := mKill_at hj hl
    refine h.2.2 (j, mcv v) (List.mem_cons_of_mem _ (List.mem_filter.mpr ⟨mTo_mem.mpr ⟨v, h1, hl, rfl⟩, ?_⟩))
    have e2 : (j == i) = false := by simp; omega
    simp only [e2, mcat_mcv, Bool.not_false, Bool.true_and, Bool.not_eq_true', Bool.and_eq_false_iff, beq_eq_false_iff_ne]
    by_cases e3 : j + 1 = i
    · exact Or.inr (fun q => h2 ⟨e3, q⟩)
    · exact Or.inl e3
theorem mLs.sto2 {ls' : Array Slot} {nL : Nat} {L : List mV} {i : Nat} {x : mV} (h : lv_has ls' nL ((i, mcv x) :: (mTo L).filter (fun q => !(q.1 == i) && (!(q.1 == i + 1) && !(q.1 + 1 == i && q.2.category == 2))))) : mLs ls' nL (mSto2 L i x) := by
  refine ⟨h.1, h.2.1, fun j v hj hl => ?_⟩
  unfold mSto2 at hj
  by_cases e0 : i + 1 = j
  · subst e0
    rw [List.getElem?_set] at hj
    simp only [if_true] at hj
    split at hj
    · have h2 := Option.some.inj hj
      subst h2
      cases hl
    · cases hj
  rw [List.getElem?_set_ne e0] at hj
  by_cases e : i = j
  · subst e
    rw [List.getElem?_set] at hj
    simp only [if_true] at hj
    split at hj
    · have h2 := Option.some.inj hj
      subst h2
      exact h.2.2 (i, mcv x) List.mem_cons_self
    · cases hj
  · rw [List.getElem?_set_ne e] at hj
    obtain ⟨h1, h2⟩ := mKill_at hj hl
    refine h.2.2 (j, mcv v) (List.mem_cons_of_mem _ (List.mem_filter.mpr ⟨mTo_mem.mpr ⟨v, h1, hl, rfl⟩, ?_⟩))
    have e2 : (j == i) = false := by simp; omega
    have e4 : (j == i + 1) = false := by simp; omega
    simp only [e2, e4, mcat_mcv, Bool.not_false, Bool.true_and, Bool.not_eq_true', Bool.and_eq_false_iff, beq_eq_false_iff_ne]
    by_cases e3 : j + 1 = i
    · exact Or.inr (fun q => h2 ⟨e3, q⟩)
    · exact Or.inl e3
/-- fewer locals -/
def mLe : List mV → List mV → Prop
  | [], _ => True
  | _ :: _, [] => False
  | x :: xs, z :: zs => (x = vd ∨ x = z) ∧ mLe xs zs
theorem mLe_at : ∀ (L' L : List mV), mLe L' L → ∀ (i : Nat) (v : mV), L'[i]? = some v → mLive v = true → L[i]? = some v
  | [], _, _, i, v, h, _ => by simp at h
  | _ :: _, [], h, _, _, _, _ => False.elim h
  | x :: xs, z :: zs, h, 0, v, hi, hl => by
    have e : x = v := by simpa using hi
    subst e
    rcases h.1 with e | e
    · subst e; cases hl
    · subst e; rfl
  | x :: xs, z :: zs, h, i + 1, v, hi, hl => by
    have hi : xs[i]? = some v := by simpa using hi
    have := mLe_at xs zs h.2 i v hi hl
    simpa using this
theorem mLs.less {ls : Array Slot} {nL : Nat} {L L' : List mV} (h : mLs ls nL L) (hle : mLe L' L) : mLs ls nL L' := ⟨h.1, h.2.1, fun i v hv hl => h.2.2 i v (mLe_at L' L hle i v hv hl) hl⟩
/-- the locals at a method's start -/
def mEnt : List mV → List mV
  | [] => []
  | .inr (.inl x) :: vs => vl x :: vd :: mEnt vs
  | v :: vs => v :: mEnt vs
theorem mEnt_args : ∀ (vs : List mV) (i0 i : Nat) (v : mV), (mEnt vs)[i]? = some v → mLive v = true → (i0 + i, mcv v) ∈ lv_args i0 (vs.map mcv)
  | [], i0, i, v, h, _ => by simp [mEnt] at h
  | .inl x :: vs, i0, 0, v, h, _ => by
    have e : Sum.inl x = v := by simpa [mEnt] using h
    subst e
    exact List.mem_cons_self
  | .inl x :: vs, i0, i + 1, v, h, hl => by
    have h : (mEnt vs)[i]? = some v := by simpa [mEnt] using h
    have := mEnt_args vs (i0 + 1) i v h hl
    refine List.mem_cons_of_mem _ ?_
    have e : i0 + (i + 1) = i0 + 1 + i := by omega
    rw [e]
    exact this
  | .inr (.inr (.inl a)) :: vs, i0, 0, v, h, _ => by
    have e : vr a = v := by simpa [mEnt] using h
    subst e
    exact List.mem_cons_self
  | .inr (.inr (.inl a)) :: vs, i0, i + 1, v, h, hl => by
    have h : (mEnt vs)[i]? = some v := by simpa [mEnt] using h
    have h2 := mEnt_args vs (i0 + 1) i v h hl
    refine List.mem_cons_of_mem _ ?_
    have e : i0 + (i + 1) = i0 + 1 + i := by omega
    rw [e, show (mcv (Sum.inr (Sum.inr (Sum.inl a)))).category = 1 from mcat_mcv _]
    exact h2
  | .inr (.inr (.inr u)) :: vs, i0, 0, v, h, hl => by
    have e : Sum.inr (Sum.inr (Sum.inr u)) = v := by simpa [mEnt] using h
    subst e
    exact List.mem_cons_self
  | .inr (.inr (.inr u)) :: vs, i0, i + 1, v, h, hl => by
    have h : (mEnt vs)[i]? = some v := by simpa [mEnt] using h
    have h2 := mEnt_args vs (i0 + 1) i v h hl
    refine List.mem_cons_of_mem _ ?_
    have e : i0 + (i + 1) = i0 + 1 + i := by omega
    rw [e, show (mcv (Sum.inr (Sum.inr (Sum.inr u)))).category = 1 from mcat_mcv _]
    exact h2
  | .inr (.inl x) :: vs, i0, 0, v, h, _ => by
    have e : vl x = v := by simpa [mEnt] using h
    subst e
    exact List.mem_cons_self
  | .inr (.inl x) :: vs, i0, 1, v, h, hl => by
    have e : vd = v := by simpa [mEnt] using h
    subst e
    cases hl
  | .inr (.inl x) :: vs, i0, i + 2, v, h, hl => by
    have h : (mEnt vs)[i]? = some v := by simpa [mEnt] using h
    have h2 := mEnt_args vs (i0 + 2) i v h hl
    refine List.mem_cons_of_mem _ ?_
    have e : i0 + (i + 2) = i0 + 2 + i := by omega
    rw [e]
    exact h2
end
section
/-! THE FLAT MACHINE'S RULES: an instruction, a rule. -/
def shlI (x s : Int) : Int := (Int32.ofInt x <<< (Int32.ofInt s &&& 31)).toInt
def shrI (x s : Int) : Int := (Int32.ofInt x >>> (Int32.ofInt s &&& 31)).toInt
def ushrI (x s : Int) : Int := ((Int32.ofInt x).toUInt32 >>> ((Int32.ofInt s).toUInt32 &&& Int32.toUInt32 31)).toInt32.toInt
def andI (x z : Int) : Int := (Int32.ofInt x &&& Int32.ofInt z).toInt
def orI (x z : Int) : Int := (Int32.ofInt x ||| Int32.ofInt z).toInt
def xorI (x z : Int) : Int := (Int32.ofInt x ^^^ Int32.ofInt z).toInt
def shlL (x s : Int) : Int := (Int64.ofInt x <<< ((Int32.ofInt s).toInt64 &&& 63)).toInt
def shrL (x s : Int) : Int := (Int64.ofInt x >>> ((Int32.ofInt s).toInt64 &&& 63)).toInt
def ushrL (x s : Int) : Int := ((Int64.ofInt x).toUInt64 >>> ((Int32.ofInt s).toInt64.toUInt64 &&& Int64.toUInt64 63)).toInt64.toInt
def andL (x z : Int) : Int := (Int64.ofInt x &&& Int64.ofInt z).toInt
def i2cI (x : Int) : Int := ((Int32.ofInt x).toUInt32 % 65536).toInt32.toInt
def cmpL (x z : Int) : Int := if z < x then 1 else if x = z then 0 else -1
section Rules
variable {G : mG} {y : mY} {d pc : Nat} {L st : List mV} {M : mM} {Q : Option mV → mM → Prop}
/-- a step that changes the place, the stack and the locals alone -/
theorem wm_ls {pc' : Nat} {L' st' : List mV} (hs : ∀ (p : Program) (e : Env) (R : Room) (s : State) (m : MethodId) (args : Array Value) (below : List Frame) (meth : Method) (c : Code) (H : Heap) (locs : List Loc) (cells slots : Nat) (ls : Array Slot) (Qf : State → Prop), mAt G y d p R s m args meth c → mRep G M H → mLs ls y.2.2.1 L → (∀ ls' : Array Slot, mLs ls' y.2.2.1 L' → W p (gL G) e R s m args below meth c H locs cells slots Qf (F0 m pc' ls' (st'.map mcv))) → W p (gL G) e R s m args below meth c H locs cells slots Qf (F0 m pc ls (st.map mcv))) (h : mWm G y d pc' L' st' M Q) : mWm G y d pc L st M Q := by
  obtain ⟨r, M', ⟨h1, h2⟩, h3⟩ := h
  exact ⟨r, M', ⟨h1, fun p e R s m args below meth c H locs cells slots ls hA hR hl hc hs' hL => hs p e R s m args below meth c H locs cells slots ls _ hA hR hL (fun ls' hL' => h2 p e R s m args below meth c H locs cells slots ls' hA hR hl hc hs' hL')⟩, h3⟩
/-- a step that changes the place and the stack alone -/
theorem wm_st {pc' : Nat} {st' : List mV} (hs : ∀ (p : Program) (e : Env) (R : Room) (s : State) (m : MethodId) (args : Array Value) (below : List Frame) (meth : Method) (c : Code) (H : Heap) (locs : List Loc) (cells slots : Nat) (ls : Array Slot) (Qf : State → Prop), mAt G y d p R s m args meth c → mRep G M H → mLs ls y.2.2.1 L → W p (gL G) e R s m args below meth c H locs cells slots Qf (F0 m pc' ls (st'.map mcv)) → W p (gL G) e R s m args below meth c H locs cells slots Qf (F0 m pc ls (st.map mcv))) (h : mWm G y d pc' L st' M Q) : mWm G y d pc L st M Q :=
  wm_ls (fun p e R s m args below meth c H locs cells slots ls Qf hA hR hL k => hs p e R s m args below meth c H locs cells slots ls Qf hA hR hL (k ls hL)) h
theorem wm_less {L' : List mV} (hle : mLe L' L) (h : mWm G y d pc L' st M Q) : mWm G y d pc L st M Q :=
  wm_ls (fun p e R s m args below meth c H locs cells slots ls Qf hA hR hL k => k ls (hL.less hle)) h

theorem wm_iconst {n : Int} (hd : decode y.2.1 pc = .ok (.iconst n, 1)) (h : mWm G y d (pc + 1) L (vi n :: st) M Q) : mWm G y d pc L st M Q := wm_st (fun p e R s m args below meth c H locs cells slots ls Qf hA hR hL k => lv_iconst hA.1 hA.2.1 hd rfl k) h
theorem wm_bipush {n : Int} (hd : decode y.2.1 pc = .ok (.bipush n, 2)) (hv : (Int8.ofInt n).toInt32 = Int32.ofInt n) (h : mWm G y d (pc + 2) L (vi n :: st) M Q) : mWm G y d pc L st M Q := wm_st (fun p e R s m args below meth c H locs cells slots ls Qf hA hR hL k => lv_bipush hA.1 hA.2.1 hd hv k) h
theorem wm_sipush {n : Int} (hd : decode y.2.1 pc = .ok (.sipush n, 3)) (hv : (Int16.ofInt n).toInt32 = Int32.ofInt n) (h : mWm G y d (pc + 3) L (vi n :: st) M Q) : mWm G y d pc L st M Q := wm_st (fun p e R s m args below meth c H locs cells slots ls Qf hA hR hL k => lv_sipush hA.1 hA.2.1 hd hv k) h
theorem wm_lconst {n : Fin 2} {x : Int} (hd : decode y.2.1 pc = .ok (.lconst n, 1)) (hv : Int64.ofNat (n : Nat) = Int64.ofInt x) (h : mWm G y d (pc + 1) L (vl x :: st) M Q) : mWm G y d pc L st M Q := wm_st (fun p e R s m args below meth c H locs cells slots ls Qf hA hR hL k => lv_lconst hA.1 hA.2.1 hd hv k) h
theorem wm_ldc {i : Nat} {v : Int32} {x : Int} (hd : decode y.2.1 pc = .ok (.ldc i, 2)) (hw : Cond.constant y.1.cls i v ∈ lw_R) (hv : v = Int32.ofInt x) (h : mWm G y d (pc + 2) L (vi x :: st) M Q) : mWm G y d pc L st M Q := wm_st (fun p e R s m args below meth c H locs cells slots ls Qf hA hR hL k => by subst hv; exact lv_ldc hA.1 hA.2.1 hA.2.2.2.2.2.2.1 (hA.2.2.2.2.2.2.2.2.1 _ hw) hd k) h
theorem wm_ldcw {i : Nat} {v : Int32} {x : Int} (hd : decode y.2.1 pc = .ok (.ldc_w i, 3)) (hw : Cond.constant y.1.cls i v ∈ lw_R) (hv : v = Int32.ofInt x) (h : mWm G y d (pc + 3) L (vi x :: st) M Q) : mWm G y d pc L st M Q := wm_st (fun p e R s m args below meth c H locs cells slots ls Qf hA hR hL k => by subst hv; exact lv_ldcw hA.1 hA.2.1 hA.2.2.2.2.2.2.1 (hA.2.2.2.2.2.2.2.2.1 _ hw) hd k) h
theorem wm_ldc2 {i : Nat} {v : Int64} {x : Int} (hd : decode y.2.1 pc = .ok (.ldc2_w i, 3)) (hw : Cond.constantLong y.1.cls i v ∈ lw_R) (hv : v = Int64.ofInt x) (h : mWm G y d (pc + 3) L (vl x :: st) M Q) : mWm G y d pc L st M Q := wm_st (fun p e R s m args below meth c H locs cells slots ls Qf hA hR hL k => by subst hv; exact lv_ldc2 hA.1 hA.2.1 hA.2.2.2.2.2.2.1 (hA.2.2.2.2.2.2.2.2.1 _ hw) hd k) h
theorem wm_null  (hd : decode y.2.1 pc = .ok (.aconst_null, 1)) (h : mWm G y d (pc + 1) L (vr 0 :: st) M Q) : mWm G y d pc L st M Q := wm_st (fun p e R s m args below meth c H locs cells slots ls Qf hA hR hL k => lv_null hA.1 hA.2.1 hd k) h
theorem wm_iload_n {k0 : Fin 4} {i : Nat} {x : Int} (hd : decode y.2.1 pc = .ok (.iload_n k0, 1)) (hi : (k0 : Nat) = i) (hv : L[i]? = some (vi x)) (h : mWm G y d (pc + 1) L (vi x :: st) M Q) : mWm G y d pc L st M Q := wm_st (fun p e R s m args below meth c H locs cells slots ls Qf hA hR hL k => lv_iload_n hA.1 hA.2.1 hd hi (hL.at hv rfl) k) h
theorem wm_iload {i : Nat} {x : Int} (hd : decode y.2.1 pc = .ok (.iload i, 2)) (hv : L[i]? = some (vi x)) (h : mWm G y d (pc + 2) L (vi x :: st) M Q) : mWm G y d pc L st M Q := wm_st (fun p e R s m args below meth c H locs cells slots ls Qf hA hR hL k => lv_iload hA.1 hA.2.1 hd (hL.at hv rfl) k) h
theorem wm_lload_n {k0 : Fin 4} {i : Nat} {x : Int} (hd : decode y.2.1 pc = .ok (.lload_n k0, 1)) (hi : (k0 : Nat) = i) (hv : L[i]? = some (vl x)) (h : mWm G y d (pc + 1) L (vl x :: st) M Q) : mWm G y d pc L st M Q := wm_st (fun p e R s m args below meth c H locs cells slots ls Qf hA hR hL k => lv_lload_n hA.1 hA.2.1 hd hi (hL.at hv rfl) k) h
theorem wm_lload {i : Nat} {x : Int} (hd : decode y.2.1 pc = .ok (.lload i, 2)) (hv : L[i]? = some (vl x)) (h : mWm G y d (pc + 2) L (vl x :: st) M Q) : mWm G y d pc L st M Q := wm_st (fun p e R s m args below meth c H locs cells slots ls Qf hA hR hL k => lv_lload hA.1 hA.2.1 hd (hL.at hv rfl) k) h
theorem wm_aload_n {k0 : Fin 4} {i : Nat} {x : Nat} (hd : decode y.2.1 pc = .ok (.aload_n k0, 1)) (hi : (k0 : Nat) = i) (hv : L[i]? = some (vr x)) (h : mWm G y d (pc + 1) L (vr x :: st) M Q) : mWm G y d pc L st M Q := by
  by_cases h0 : x = 0
  · subst h0
    exact wm_st (fun p e R s m args below meth c H locs cells slots ls Qf hA hR hL k => lv_aload_nN hA.1 hA.2.1 hd hi (hL.at hv rfl) k) h
  · have e9 : mcv (vr x) = .ref x := if_neg h0
    exact wm_st (fun p e R s m args below meth c H locs cells slots ls Qf hA hR hL k => by
      have k' : W p (gL G) e R s m args below meth c H locs cells slots Qf (F0 m (pc + 1) ls (.ref x :: st.map mcv)) := by rw [← e9]; exact k
      exact lv_aload_n hA.1 hA.2.1 hd hi (by rw [← e9]; exact hL.at hv rfl) k') h
theorem wm_aload {i : Nat} {x : Nat} (hd : decode y.2.1 pc = .ok (.aload i, 2)) (hv : L[i]? = some (vr x)) (h : mWm G y d (pc + 2) L (vr x :: st) M Q) : mWm G y d pc L st M Q := by
  by_cases h0 : x = 0
  · subst h0
    exact wm_st (fun p e R s m args below meth c H locs cells slots ls Qf hA hR hL k => lv_aloadN hA.1 hA.2.1 hd (hL.at hv rfl) k) h
  · have e9 : mcv (vr x) = .ref x := if_neg h0
    exact wm_st (fun p e R s m args below meth c H locs cells slots ls Qf hA hR hL k => by
      have k' : W p (gL G) e R s m args below meth c H locs cells slots Qf (F0 m (pc + 2) ls (.ref x :: st.map mcv)) := by rw [← e9]; exact k
      exact lv_aload hA.1 hA.2.1 hd (by rw [← e9]; exact hL.at hv rfl) k') h
theorem wm_istore_n {k0 : Fin 4} {i : Nat} {x : Int} {L' : List mV} (hd : decode y.2.1 pc = .ok (.istore_n k0, 1)) (hi : (k0 : Nat) = i) (hn : i < y.2.2.1) (hS : mSto L i (vi x) = L') (h : mWm G y d (pc + 1) L' st M Q) : mWm G y d pc L (vi x :: st) M Q := by subst hS; exact wm_ls (fun p e R s m args below meth c H locs cells slots ls Qf hA hR hL k => lv_istore_n hA.1 hA.2.1 hd hi hL.has hn rfl (fun ls' h' => k ls' (mLs.sto (x := vi x) h'))) h
theorem wm_istore {i : Nat} {x : Int} {L' : List mV} (hd : decode y.2.1 pc = .ok (.istore i, 2)) (hn : i < y.2.2.1) (hS : mSto L i (vi x) = L') (h : mWm G y d (pc + 2) L' st M Q) : mWm G y d pc L (vi x :: st) M Q := by subst hS; exact wm_ls (fun p e R s m args below meth c H locs cells slots ls Qf hA hR hL k => lv_istore hA.1 hA.2.1 hd hL.has hn rfl (fun ls' h' => k ls' (mLs.sto (x := vi x) h'))) h
theorem wm_lstore_n {k0 : Fin 4} {i : Nat} {x : Int} {L' : List mV} (hd : decode y.2.1 pc = .ok (.lstore_n k0, 1)) (hi : (k0 : Nat) = i) (hn : i + 1 < y.2.2.1) (hS : mSto2 L i (vl x) = L') (h : mWm G y d (pc + 1) L' st M Q) : mWm G y d pc L (vl x :: st) M Q := by subst hS; exact wm_ls (fun p e R s m args below meth c H locs cells slots ls Qf hA hR hL k => lv_lstore_n hA.1 hA.2.1 hd hi hL.has hn rfl (fun ls' h' => k ls' (mLs.sto2 (x := vl x) h'))) h
theorem wm_lstore {i : Nat} {x : Int} {L' : List mV} (hd : decode y.2.1 pc = .ok (.lstore i, 2)) (hn : i + 1 < y.2.2.1) (hS : mSto2 L i (vl x) = L') (h : mWm G y d (pc + 2) L' st M Q) : mWm G y d pc L (vl x :: st) M Q := by subst hS; exact wm_ls (fun p e R s m args below meth c H locs cells slots ls Qf hA hR hL k => lv_lstore hA.1 hA.2.1 hd hL.has hn rfl (fun ls' h' => k ls' (mLs.sto2 (x := vl x) h'))) h
theorem wm_astore_n {k0 : Fin 4} {i : Nat} {x : Nat} {L' : List mV} (hd : decode y.2.1 pc = .ok (.astore_n k0, 1)) (hi : (k0 : Nat) = i) (hn : i < y.2.2.1) (hS : mSto L i (vr x) = L') (h : mWm G y d (pc + 1) L' st M Q) : mWm G y d pc L (vr x :: st) M Q := by
  subst hS
  by_cases h0 : x = 0
  · subst h0
    exact wm_ls (fun p e R s m args below meth c H locs cells slots ls Qf hA hR hL k => lv_astore_nN hA.1 hA.2.1 hd hi hL.has hn rfl (fun ls' h' => k ls' (mLs.sto (x := vr 0) h'))) h
  · have e9 : mcv (vr x) = .ref x := if_neg h0
    exact wm_ls (fun p e R s m args below meth c H locs cells slots ls Qf hA hR hL k => by
      show W p (gL G) e R s m args below meth c H locs cells slots Qf (F0 m pc ls (mcv (vr x) :: st.map mcv))
      rw [e9]
      exact lv_astore_n hA.1 hA.2.1 hd hi hL.has hn rfl (fun ls' h' => k ls' (mLs.sto (x := vr x) (by rw [e9]; exact h')))) h
theorem wm_astore {i : Nat} {x : Nat} {L' : List mV} (hd : decode y.2.1 pc = .ok (.astore i, 2)) (hn : i < y.2.2.1) (hS : mSto L i (vr x) = L') (h : mWm G y d (pc + 2) L' st M Q) : mWm G y d pc L (vr x :: st) M Q := by
  subst hS
  by_cases h0 : x = 0
  · subst h0
    exact wm_ls (fun p e R s m args below meth c H locs cells slots ls Qf hA hR hL k => lv_astoreN hA.1 hA.2.1 hd hL.has hn rfl (fun ls' h' => k ls' (mLs.sto (x := vr 0) h'))) h
  · have e9 : mcv (vr x) = .ref x := if_neg h0
    exact wm_ls (fun p e R s m args below meth c H locs cells slots ls Qf hA hR hL k => by
      show W p (gL G) e R s m args below meth c H locs cells slots Qf (F0 m pc ls (mcv (vr x) :: st.map mcv))
      rw [e9]
      exact lv_astore hA.1 hA.2.1 hd hL.has hn rfl (fun ls' h' => k ls' (mLs.sto (x := vr x) (by rw [e9]; exact h')))) h
theorem wm_iinc {i : Nat} {n x : Int} {L' : List mV} (hd : decode y.2.1 pc = .ok (.iinc i n, 3)) (hn : i < y.2.2.1) (hv : L[i]? = some (vi x)) (hS : mSto L i (vi (x + n)) = L') (h : mWm G y d (pc + 3) L' st M Q) : mWm G y d pc L st M Q := by
  subst hS
  obtain ⟨k9, hk9⟩ := List.getElem?_of_mem (mTo_mem (q := (i, mcv (vi x))).mpr ⟨vi x, hv, rfl, rfl⟩)
  exact wm_ls (fun p e R s m args below meth c H locs cells slots ls Qf hA hR hL k => lv_iinc hA.1 hA.2.1 hd hL.has hk9 (by rw [← Int32.ofInt_add]) hn rfl (fun ls' h' => k ls' (mLs.sto (x := vi (x + n)) h'))) h
theorem wm_iadd {x z : Int} (hd : decode y.2.1 pc = .ok (.iadd, 1)) (h : mWm G y d (pc + 1) L (vi (x + z) :: st) M Q) : mWm G y d pc L (vi z :: vi x :: st) M Q :=
  wm_st (fun p e R s m args below meth c H locs cells slots ls Qf hA hR hL k => by
    have k' : W p (gL G) e R s m args below meth c H locs cells slots Qf (F0 m (pc + 1) ls (.int (Int32.ofInt (x + z)) :: st.map mcv)) := k
    rw [Int32.ofInt_add] at k'
    exact lv_iadd hA.1 hA.2.1 hd k') h
theorem wm_isub {x z : Int} (hd : decode y.2.1 pc = .ok (.isub, 1)) (h : mWm G y d (pc + 1) L (vi (x - z) :: st) M Q) : mWm G y d pc L (vi z :: vi x :: st) M Q :=
  wm_st (fun p e R s m args below meth c H locs cells slots ls Qf hA hR hL k => by
    have k' : W p (gL G) e R s m args below meth c H locs cells slots Qf (F0 m (pc + 1) ls (.int (Int32.ofInt (x - z)) :: st.map mcv)) := k
    rw [Int32.ofInt_sub] at k'
    exact lv_isub hA.1 hA.2.1 hd k') h
theorem wm_imul {x z : Int} (hd : decode y.2.1 pc = .ok (.imul, 1)) (h : mWm G y d (pc + 1) L (vi (x * z) :: st) M Q) : mWm G y d pc L (vi z :: vi x :: st) M Q :=
  wm_st (fun p e R s m args below meth c H locs cells slots ls Qf hA hR hL k => by
    have k' : W p (gL G) e R s m args below meth c H locs cells slots Qf (F0 m (pc + 1) ls (.int (Int32.ofInt (x * z)) :: st.map mcv)) := k
    rw [Int32.ofInt_mul] at k'
    exact lv_imul hA.1 hA.2.1 hd k') h
theorem wm_ladd {x z : Int} (hd : decode y.2.1 pc = .ok (.ladd, 1)) (h : mWm G y d (pc + 1) L (vl (x + z) :: st) M Q) : mWm G y d pc L (vl z :: vl x :: st) M Q :=
  wm_st (fun p e R s m args below meth c H locs cells slots ls Qf hA hR hL k => by
    have k' : W p (gL G) e R s m args below meth c H locs cells slots Qf (F0 m (pc + 1) ls (.long (Int64.ofInt (x + z)) :: st.map mcv)) := k
    rw [Int64.ofInt_add] at k'
    exact lv_ladd hA.1 hA.2.1 hd k') h
theorem wm_lsub {x z : Int} (hd : decode y.2.1 pc = .ok (.lsub, 1)) (h : mWm G y d (pc + 1) L (vl (x - z) :: st) M Q) : mWm G y d pc L (vl z :: vl x :: st) M Q :=
  wm_st (fun p e R s m args below meth c H locs cells slots ls Qf hA hR hL k => by
    have k' : W p (gL G) e R s m args below meth c H locs cells slots Qf (F0 m (pc + 1) ls (.long (Int64.ofInt (x - z)) :: st.map mcv)) := k
    rw [Int64.ofInt_sub] at k'
    exact lv_lsub hA.1 hA.2.1 hd k') h
theorem wm_lmul {x z : Int} (hd : decode y.2.1 pc = .ok (.lmul, 1)) (h : mWm G y d (pc + 1) L (vl (x * z) :: st) M Q) : mWm G y d pc L (vl z :: vl x :: st) M Q :=
  wm_st (fun p e R s m args below meth c H locs cells slots ls Qf hA hR hL k => by
    have k' : W p (gL G) e R s m args below meth c H locs cells slots Qf (F0 m (pc + 1) ls (.long (Int64.ofInt (x * z)) :: st.map mcv)) := k
    rw [Int64.ofInt_mul] at k'
    exact lv_lmul hA.1 hA.2.1 hd k') h
theorem wm_ishl {x z : Int} (hd : decode y.2.1 pc = .ok (.ishl, 1)) (h : mWm G y d (pc + 1) L (vi (shlI x z) :: st) M Q) : mWm G y d pc L (vi z :: vi x :: st) M Q :=
  wm_st (fun p e R s m args below meth c H locs cells slots ls Qf hA hR hL k => by
    have k' : W p (gL G) e R s m args below meth c H locs cells slots Qf (F0 m (pc + 1) ls (.int (Int32.ofInt (shlI x z)) :: st.map mcv)) := k
    rw [show Int32.ofInt (shlI x z) = _ from Int32.ofInt_toInt _] at k'
    exact lv_ishl hA.1 hA.2.1 hd k') h
theorem wm_ishr {x z : Int} (hd : decode y.2.1 pc = .ok (.ishr, 1)) (h : mWm G y d (pc + 1) L (vi (shrI x z) :: st) M Q) : mWm G y d pc L (vi z :: vi x :: st) M Q :=
  wm_st (fun p e R s m args below meth c H locs cells slots ls Qf hA hR hL k => by
    have k' : W p (gL G) e R s m args below meth c H locs cells slots Qf (F0 m (pc + 1) ls (.int (Int32.ofInt (shrI x z)) :: st.map mcv)) := k
    rw [show Int32.ofInt (shrI x z) = _ from Int32.ofInt_toInt _] at k'
    exact lv_ishr hA.1 hA.2.1 hd k') h
theorem wm_iand {x z : Int} (hd : decode y.2.1 pc = .ok (.iand, 1)) (h : mWm G y d (pc + 1) L (vi (andI x z) :: st) M Q) : mWm G y d pc L (vi z :: vi x :: st) M Q :=
  wm_st (fun p e R s m args below meth c H locs cells slots ls Qf hA hR hL k => by
    have k' : W p (gL G) e R s m args below meth c H locs cells slots Qf (F0 m (pc + 1) ls (.int (Int32.ofInt (andI x z)) :: st.map mcv)) := k
    rw [show Int32.ofInt (andI x z) = _ from Int32.ofInt_toInt _] at k'
    exact lv_iand hA.1 hA.2.1 hd k') h
theorem wm_ior {x z : Int} (hd : decode y.2.1 pc = .ok (.ior, 1)) (h : mWm G y d (pc + 1) L (vi (orI x z) :: st) M Q) : mWm G y d pc L (vi z :: vi x :: st) M Q :=
  wm_st (fun p e R s m args below meth c H locs cells slots ls Qf hA hR hL k => by
    have k' : W p (gL G) e R s m args below meth c H locs cells slots Qf (F0 m (pc + 1) ls (.int (Int32.ofInt (orI x z)) :: st.map mcv)) := k
    rw [show Int32.ofInt (orI x z) = _ from Int32.ofInt_toInt _] at k'
    exact lv_ior hA.1 hA.2.1 hd k') h
theorem wm_ixor {x z : Int} (hd : decode y.2.1 pc = .ok (.ixor, 1)) (h : mWm G y d (pc + 1) L (vi (xorI x z) :: st) M Q) : mWm G y d pc L (vi z :: vi x :: st) M Q :=
  wm_st (fun p e R s m args below meth c H locs cells slots ls Qf hA hR hL k => by
    have k' : W p (gL G) e R s m args below meth c H locs cells slots Qf (F0 m (pc + 1) ls (.int (Int32.ofInt (xorI x z)) :: st.map mcv)) := k
    rw [show Int32.ofInt (xorI x z) = _ from Int32.ofInt_toInt _] at k'
    exact lv_ixor hA.1 hA.2.1 hd k') h
theorem wm_land {x z : Int} (hd : decode y.2.1 pc = .ok (.land, 1)) (h : mWm G y d (pc + 1) L (vl (andL x z) :: st) M Q) : mWm G y d pc L (vl z :: vl x :: st) M Q :=
  wm_st (fun p e R s m args below meth c H locs cells slots ls Qf hA hR hL k => by
    have k' : W p (gL G) e R s m args below meth c H locs cells slots Qf (F0 m (pc + 1) ls (.long (Int64.ofInt (andL x z)) :: st.map mcv)) := k
    rw [show Int64.ofInt (andL x z) = _ from Int64.ofInt_toInt _] at k'
    exact lv_land hA.1 hA.2.1 hd k') h
theorem wm_iushr {x z : Int} (hd : decode y.2.1 pc = .ok (.iushr, 1)) (h : mWm G y d (pc + 1) L (vi (ushrI x z) :: st) M Q) : mWm G y d pc L (vi z :: vi x :: st) M Q :=
  wm_st (fun p e R s m args below meth c H locs cells slots ls Qf hA hR hL k => lv_iushr hA.1 hA.2.1 hd (Int32.ofInt_toInt _).symm k) h
theorem wm_lshl {x z : Int} (hd : decode y.2.1 pc = .ok (.lshl, 1)) (h : mWm G y d (pc + 1) L (vl (shlL x z) :: st) M Q) : mWm G y d pc L (vi z :: vl x :: st) M Q :=
  wm_st (fun p e R s m args below meth c H locs cells slots ls Qf hA hR hL k => lv_lshl hA.1 hA.2.1 hd (Int64.ofInt_toInt _).symm k) h
theorem wm_lshr {x z : Int} (hd : decode y.2.1 pc = .ok (.lshr, 1)) (h : mWm G y d (pc + 1) L (vl (shrL x z) :: st) M Q) : mWm G y d pc L (vi z :: vl x :: st) M Q :=
  wm_st (fun p e R s m args below meth c H locs cells slots ls Qf hA hR hL k => lv_lshr hA.1 hA.2.1 hd (Int64.ofInt_toInt _).symm k) h
theorem wm_lushr {x z : Int} (hd : decode y.2.1 pc = .ok (.lushr, 1)) (h : mWm G y d (pc + 1) L (vl (ushrL x z) :: st) M Q) : mWm G y d pc L (vi z :: vl x :: st) M Q :=
  wm_st (fun p e R s m args below meth c H locs cells slots ls Qf hA hR hL k => lv_lushr hA.1 hA.2.1 hd (Int64.ofInt_toInt _).symm k) h
theorem wm_ineg {x : Int} (hd : decode y.2.1 pc = .ok (.ineg, 1)) (h : mWm G y d (pc + 1) L (vi (-x) :: st) M Q) : mWm G y d pc L (vi x :: st) M Q :=
  wm_st (fun p e R s m args below meth c H locs cells slots ls Qf hA hR hL k => by
    have k' : W p (gL G) e R s m args below meth c H locs cells slots Qf (F0 m (pc + 1) ls (.int (Int32.ofInt (-x)) :: st.map mcv)) := k
    rw [Int32.ofInt_neg] at k'
    exact lv_ineg hA.1 hA.2.1 hd k') h
theorem m_idiv {x z : Int} (hx : i32 x) (hz : i32 z) : Int32.ofInt x / Int32.ofInt z = Int32.ofInt (x.tdiv z) := by
  rw [← Int32.toInt_inj, Int32.toInt_div, i32_toInt hx, i32_toInt hz, Int32.toInt_ofInt]
theorem m_irem {x z : Int} (hx : i32 x) (hz : i32 z) : Int32.ofInt x - Int32.ofInt x / Int32.ofInt z * Int32.ofInt z = Int32.ofInt (x.tmod z) := by
  rw [m_idiv hx hz, ← Int32.ofInt_mul, ← Int32.ofInt_sub]
  congr 1
  have := Int.tmod_add_mul_tdiv x z
  rw [Int.mul_comm] at this
  omega
theorem wm_idiv {x z : Int} (hd : decode y.2.1 pc = .ok (.idiv, 1)) (hx : i32 x) (hz : i32 z) (h0 : z ≠ 0) (h : mWm G y d (pc + 1) L (vi (x.tdiv z) :: st) M Q) : mWm G y d pc L (vi z :: vi x :: st) M Q :=
  wm_st (fun p e R s m args below meth c H locs cells slots ls Qf hA hR hL k => by
    have k' : W p (gL G) e R s m args below meth c H locs cells slots Qf (F0 m (pc + 1) ls (.int (Int32.ofInt (x.tdiv z)) :: st.map mcv)) := k
    rw [← m_idiv hx hz] at k'
    exact lv_idiv hA.1 hA.2.1 hd (fun q => h0 ((i32_eq hz ⟨by decide, by decide⟩).mp q)) k') h
theorem wm_irem {x z : Int} (hd : decode y.2.1 pc = .ok (.irem, 1)) (hx : i32 x) (hz : i32 z) (h0 : z ≠ 0) (h : mWm G y d (pc + 1) L (vi (x.tmod z) :: st) M Q) : mWm G y d pc L (vi z :: vi x :: st) M Q :=
  wm_st (fun p e R s m args below meth c H locs cells slots ls Qf hA hR hL k => by
    have k' : W p (gL G) e R s m args below meth c H locs cells slots Qf (F0 m (pc + 1) ls (.int (Int32.ofInt (x.tmod z)) :: st.map mcv)) := k
    rw [← m_irem hx hz] at k'
    exact lv_irem hA.1 hA.2.1 hd (fun q => h0 ((i32_eq hz ⟨by decide, by decide⟩).mp q)) k') h
theorem wm_lneg {x : Int} (hd : decode y.2.1 pc = .ok (.lneg, 1)) (h : mWm G y d (pc + 1) L (vl (-x) :: st) M Q) : mWm G y d pc L (vl x :: st) M Q :=
  wm_st (fun p e R s m args below meth c H locs cells slots ls Qf hA hR hL k => by
    have k' : W p (gL G) e R s m args below meth c H locs cells slots Qf (F0 m (pc + 1) ls (.long (Int64.ofInt (-x)) :: st.map mcv)) := k
    rw [Int64.ofInt_neg] at k'
    exact lv_lneg hA.1 hA.2.1 hd k') h
theorem m_ldiv {x z : Int} (hx : i64 x) (hz : i64 z) : Int64.ofInt x / Int64.ofInt z = Int64.ofInt (x.tdiv z) := by
  rw [← Int64.toInt_inj, Int64.toInt_div, i64_toInt hx, i64_toInt hz, Int64.toInt_ofInt]
theorem m_lrem {x z : Int} (hx : i64 x) (hz : i64 z) : Int64.ofInt x - Int64.ofInt x / Int64.ofInt z * Int64.ofInt z = Int64.ofInt (x.tmod z) := by
  rw [m_ldiv hx hz, ← Int64.ofInt_mul, ← Int64.ofInt_sub]
  congr 1
  have := Int.tmod_add_mul_tdiv x z
  rw [Int.mul_comm] at this
  omega
theorem wm_ldiv {x z : Int} (hd : decode y.2.1 pc = .ok (.ldiv, 1)) (hx : i64 x) (hz : i64 z) (h0 : z ≠ 0) (h : mWm G y d (pc + 1) L (vl (x.tdiv z) :: st) M Q) : mWm G y d pc L (vl z :: vl x :: st) M Q :=
  wm_st (fun p e R s m args below meth c H locs cells slots ls Qf hA hR hL k => by
    have k' : W p (gL G) e R s m args below meth c H locs cells slots Qf (F0 m (pc + 1) ls (.long (Int64.ofInt (x.tdiv z)) :: st.map mcv)) := k
    rw [← m_ldiv hx hz] at k'
    exact lv_ldiv hA.1 hA.2.1 hd (fun q => h0 ((i64_eq hz ⟨by decide, by decide⟩).mp q)) k') h
theorem wm_lrem {x z : Int} (hd : decode y.2.1 pc = .ok (.lrem, 1)) (hx : i64 x) (hz : i64 z) (h0 : z ≠ 0) (h : mWm G y d (pc + 1) L (vl (x.tmod z) :: st) M Q) : mWm G y d pc L (vl z :: vl x :: st) M Q :=
  wm_st (fun p e R s m args below meth c H locs cells slots ls Qf hA hR hL k => by
    have k' : W p (gL G) e R s m args below meth c H locs cells slots Qf (F0 m (pc + 1) ls (.long (Int64.ofInt (x.tmod z)) :: st.map mcv)) := k
    rw [← m_lrem hx hz] at k'
    exact lv_lrem hA.1 hA.2.1 hd (fun q => h0 ((i64_eq hz ⟨by decide, by decide⟩).mp q)) k') h
theorem m_i2l {x : Int} (hx : i32 x) : (Int32.ofInt x).toInt64 = Int64.ofInt x := by
  rw [← Int64.toInt_inj, Int32.toInt_toInt64, i32_toInt hx, i64_toInt ⟨by have := hx.1; omega, by have := hx.2; omega⟩]
theorem m_l2i (x : Int) : (Int64.ofInt x).toInt32 = Int32.ofInt x := by
  rw [← Int32.toInt_inj, Int64.toInt_toInt32, Int64.toInt_ofInt, Int32.toInt_ofInt]
  exact Int.bmod_bmod_of_dvd (by decide)
theorem wm_i2l {x : Int} (hd : decode y.2.1 pc = .ok (.i2l, 1)) (hx : i32 x) (h : mWm G y d (pc + 1) L (vl x :: st) M Q) : mWm G y d pc L (vi x :: st) M Q := wm_st (fun p e R s m args below meth c H locs cells slots ls Qf hA hR hL k => lv_i2l hA.1 hA.2.1 hd (m_i2l hx) k) h
theorem wm_l2i {x : Int} (hd : decode y.2.1 pc = .ok (.l2i, 1)) (h : mWm G y d (pc + 1) L (vi x :: st) M Q) : mWm G y d pc L (vl x :: st) M Q := wm_st (fun p e R s m args below meth c H locs cells slots ls Qf hA hR hL k => lv_l2i hA.1 hA.2.1 hd (m_l2i x) k) h
theorem wm_i2c {x : Int} (hd : decode y.2.1 pc = .ok (.i2c, 1)) (h : mWm G y d (pc + 1) L (vi (i2cI x) :: st) M Q) : mWm G y d pc L (vi x :: st) M Q := wm_st (fun p e R s m args below meth c H locs cells slots ls Qf hA hR hL k => lv_i2c hA.1 hA.2.1 hd (Int32.ofInt_toInt _).symm k) h
theorem m_lcmp {x z : Int} (hx : i64 x) (hz : i64 z) : lg_cmp (Int64.ofInt x) (Int64.ofInt z) = Int32.ofInt (cmpL x z) := by
  unfold lg_cmp cmpL
  have e1 : (Int64.ofInt x > Int64.ofInt z) ↔ z < x := i64_lt hz hx
  have e2 := i64_eq hx hz
  by_cases q : z < x
  · rw [if_pos q, if_pos (e1.mpr q)]; rfl
  · rw [if_neg q, if_neg (fun h => q (e1.mp h))]
    by_cases q2 : x = z
    · rw [if_pos q2, if_pos (e2.mpr q2)]; rfl
    · rw [if_neg q2, if_neg (fun h => q2 (e2.mp h))]; rfl
theorem wm_lcmp {x z : Int} (hd : decode y.2.1 pc = .ok (.lcmp, 1)) (hx : i64 x) (hz : i64 z) (h : mWm G y d (pc + 1) L (vi (cmpL x z) :: st) M Q) : mWm G y d pc L (vl z :: vl x :: st) M Q :=
  wm_st (fun p e R s m args below meth c H locs cells slots ls Qf hA hR hL k => by
    have k' : W p (gL G) e R s m args below meth c H locs cells slots Qf (F0 m (pc + 1) ls (.int (Int32.ofInt (cmpL x z)) :: st.map mcv)) := k
    rw [← m_lcmp hx hz] at k'
    exact W.lcmp hA.1 hA.2.1 hd k') h
theorem wm_dup {v : mV} (hd : decode y.2.1 pc = .ok (.dup, 1)) (hv : mcat v = 1) (h : mWm G y d (pc + 1) L (v :: v :: st) M Q) : mWm G y d pc L (v :: st) M Q := wm_st (fun p e R s m args below meth c H locs cells slots ls Qf hA hR hL k => lv_dup hA.1 hA.2.1 hd (by rw [mcat_mcv]; exact hv) k) h
theorem wm_pop {v : mV} (hd : decode y.2.1 pc = .ok (.pop, 1)) (hv : mcat v = 1) (h : mWm G y d (pc + 1) L st M Q) : mWm G y d pc L (v :: st) M Q := wm_st (fun p e R s m args below meth c H locs cells slots ls Qf hA hR hL k => lv_pop hA.1 hA.2.1 hd (by rw [mcat_mcv]; exact hv) k) h
theorem wm_dup_x1 {v w : mV} (hd : decode y.2.1 pc = .ok (.dup_x1, 1)) (hv : mcat v = 1) (hw : mcat w = 1) (h : mWm G y d (pc + 1) L (v :: w :: v :: st) M Q) : mWm G y d pc L (v :: w :: st) M Q := wm_st (fun p e R s m args below meth c H locs cells slots ls Qf hA hR hL k => lv_dup_x1 hA.1 hA.2.1 hd (by rw [mcat_mcv]; exact hv) (by rw [mcat_mcv]; exact hw) k) h
theorem wm_dup2 {v w : mV} (hd : decode y.2.1 pc = .ok (.dup2, 1)) (hv : mcat v = 1) (hw : mcat w = 1) (h : mWm G y d (pc + 1) L (v :: w :: v :: w :: st) M Q) : mWm G y d pc L (v :: w :: st) M Q := wm_st (fun p e R s m args below meth c H locs cells slots ls Qf hA hR hL k => lv_dup2_11 hA.1 hA.2.1 hd (by rw [mcat_mcv]; exact hv) (by rw [mcat_mcv]; exact hw) k) h
theorem wm_if_eq {x : Int} {off : Int} {tgt : Nat} (hd : decode y.2.1 pc = .ok (.ifCond .eq off, 3)) (ht : (pc : Int) + off = (tgt : Int)) (hx : i32 x) (kt : x = 0 → mWm G y d tgt L st M Q) (kf : ¬ (x = 0) → mWm G y d (pc + 3) L st M Q) : mWm G y d pc L (vi x :: st) M Q := by
  by_cases hc : x = 0
  · exact wm_st (fun p e R s m args below meth c H locs cells slots ls Qf hA hR hL k => lv_if_eq hA.1 hA.2.1 hd ht (fun _ => k) (fun q => absurd ((i32_eq0 hx).mpr hc) q)) (kt hc)
  · exact wm_st (fun p e R s m args below meth c H locs cells slots ls Qf hA hR hL k => lv_if_eq hA.1 hA.2.1 hd ht (fun q => absurd ((i32_eq0 hx).mp q) hc) (fun _ => k)) (kf hc)
theorem wm_icmp_eq {x z : Int} {off : Int} {tgt : Nat} (hd : decode y.2.1 pc = .ok (.if_icmp .eq off, 3)) (ht : (pc : Int) + off = (tgt : Int)) (hx : i32 x) (hz : i32 z) (kt : x = z → mWm G y d tgt L st M Q) (kf : ¬ (x = z) → mWm G y d (pc + 3) L st M Q) : mWm G y d pc L (vi z :: vi x :: st) M Q := by
  by_cases hc : x = z
  · exact wm_st (fun p e R s m args below meth c H locs cells slots ls Qf hA hR hL k => lv_icmp_eq hA.1 hA.2.1 hd ht (fun _ => k) (fun q => absurd ((i32_eq hx hz).mpr hc) q)) (kt hc)
  · exact wm_st (fun p e R s m args below meth c H locs cells slots ls Qf hA hR hL k => lv_icmp_eq hA.1 hA.2.1 hd ht (fun q => absurd ((i32_eq hx hz).mp q) hc) (fun _ => k)) (kf hc)
theorem wm_if_ne {x : Int} {off : Int} {tgt : Nat} (hd : decode y.2.1 pc = .ok (.ifCond .ne off, 3)) (ht : (pc : Int) + off = (tgt : Int)) (hx : i32 x) (kt : ¬ x = 0 → mWm G y d tgt L st M Q) (kf : ¬ (¬ x = 0) → mWm G y d (pc + 3) L st M Q) : mWm G y d pc L (vi x :: st) M Q := by
  by_cases hc : ¬ x = 0
  · exact wm_st (fun p e R s m args below meth c H locs cells slots ls Qf hA hR hL k => lv_if_ne hA.1 hA.2.1 hd ht (fun _ => k) (fun q => absurd ((i32_eq0 hx).mp q) hc)) (kt hc)
  · exact wm_st (fun p e R s m args below meth c H locs cells slots ls Qf hA hR hL k => lv_if_ne hA.1 hA.2.1 hd ht (fun q => absurd ((i32_eq0 hx).mpr (Classical.not_not.mp hc)) q) (fun _ => k)) (kf hc)
theorem wm_icmp_ne {x z : Int} {off : Int} {tgt : Nat} (hd : decode y.2.1 pc = .ok (.if_icmp .ne off, 3)) (ht : (pc : Int) + off = (tgt : Int)) (hx : i32 x) (hz : i32 z) (kt : ¬ x = z → mWm G y d tgt L st M Q) (kf : ¬ (¬ x = z) → mWm G y d (pc + 3) L st M Q) : mWm G y d pc L (vi z :: vi x :: st) M Q := by
  by_cases hc : ¬ x = z
  · exact wm_st (fun p e R s m args below meth c H locs cells slots ls Qf hA hR hL k => lv_icmp_ne hA.1 hA.2.1 hd ht (fun _ => k) (fun q => absurd ((i32_eq hx hz).mp q) hc)) (kt hc)
  · exact wm_st (fun p e R s m args below meth c H locs cells slots ls Qf hA hR hL k => lv_icmp_ne hA.1 hA.2.1 hd ht (fun q => absurd ((i32_eq hx hz).mpr (Classical.not_not.mp hc)) q) (fun _ => k)) (kf hc)
theorem wm_if_lt {x : Int} {off : Int} {tgt : Nat} (hd : decode y.2.1 pc = .ok (.ifCond .lt off, 3)) (ht : (pc : Int) + off = (tgt : Int)) (hx : i32 x) (kt : x < 0 → mWm G y d tgt L st M Q) (kf : ¬ (x < 0) → mWm G y d (pc + 3) L st M Q) : mWm G y d pc L (vi x :: st) M Q := by
  by_cases hc : x < 0
  · exact wm_st (fun p e R s m args below meth c H locs cells slots ls Qf hA hR hL k => lv_if_lt hA.1 hA.2.1 hd ht (fun _ => k) (fun q => absurd ((i32_lt0 hx).mpr hc) q)) (kt hc)
  · exact wm_st (fun p e R s m args below meth c H locs cells slots ls Qf hA hR hL k => lv_if_lt hA.1 hA.2.1 hd ht (fun q => absurd ((i32_lt0 hx).mp q) hc) (fun _ => k)) (kf hc)
theorem wm_icmp_lt {x z : Int} {off : Int} {tgt : Nat} (hd : decode y.2.1 pc = .ok (.if_icmp .lt off, 3)) (ht : (pc : Int) + off = (tgt : Int)) (hx : i32 x) (hz : i32 z) (kt : x < z → mWm G y d tgt L st M Q) (kf : ¬ (x < z) → mWm G y d (pc + 3) L st M Q) : mWm G y d pc L (vi z :: vi x :: st) M Q := by
  by_cases hc : x < z
  · exact wm_st (fun p e R s m args below meth c H locs cells slots ls Qf hA hR hL k => lv_icmp_lt hA.1 hA.2.1 hd ht (fun _ => k) (fun q => absurd ((i32_lt hx hz).mpr hc) q)) (kt hc)
  · exact wm_st (fun p e R s m args below meth c H locs cells slots ls Qf hA hR hL k => lv_icmp_lt hA.1 hA.2.1 hd ht (fun q => absurd ((i32_lt hx hz).mp q) hc) (fun _ => k)) (kf hc)
theorem wm_if_ge {x : Int} {off : Int} {tgt : Nat} (hd : decode y.2.1 pc = .ok (.ifCond .ge off, 3)) (ht : (pc : Int) + off = (tgt : Int)) (hx : i32 x) (kt : 0 ≤ x → mWm G y d tgt L st M Q) (kf : ¬ (0 ≤ x) → mWm G y d (pc + 3) L st M Q) : mWm G y d pc L (vi x :: st) M Q := by
  by_cases hc : 0 ≤ x
  · exact wm_st (fun p e R s m args below meth c H locs cells slots ls Qf hA hR hL k => lv_if_ge hA.1 hA.2.1 hd ht (fun _ => k) (fun q => absurd ((i32_ge0 hx).mpr hc) q)) (kt hc)
  · exact wm_st (fun p e R s m args below meth c H locs cells slots ls Qf hA hR hL k => lv_if_ge hA.1 hA.2.1 hd ht (fun q => absurd ((i32_ge0 hx).mp q) hc) (fun _ => k)) (kf hc)
theorem wm_icmp_ge {x z : Int} {off : Int} {tgt : Nat} (hd : decode y.2.1 pc = .ok (.if_icmp .ge off, 3)) (ht : (pc : Int) + off = (tgt : Int)) (hx : i32 x) (hz : i32 z) (kt : z ≤ x → mWm G y d tgt L st M Q) (kf : ¬ (z ≤ x) → mWm G y d (pc + 3) L st M Q) : mWm G y d pc L (vi z :: vi x :: st) M Q := by
  by_cases hc : z ≤ x
  · exact wm_st (fun p e R s m args below meth c H locs cells slots ls Qf hA hR hL k => lv_icmp_ge hA.1 hA.2.1 hd ht (fun _ => k) (fun q => absurd ((i32_le hz hx).mpr hc) q)) (kt hc)
  · exact wm_st (fun p e R s m args below meth c H locs cells slots ls Qf hA hR hL k => lv_icmp_ge hA.1 hA.2.1 hd ht (fun q => absurd ((i32_le hz hx).mp q) hc) (fun _ => k)) (kf hc)
theorem wm_if_gt {x : Int} {off : Int} {tgt : Nat} (hd : decode y.2.1 pc = .ok (.ifCond .gt off, 3)) (ht : (pc : Int) + off = (tgt : Int)) (hx : i32 x) (kt : 0 < x → mWm G y d tgt L st M Q) (kf : ¬ (0 < x) → mWm G y d (pc + 3) L st M Q) : mWm G y d pc L (vi x :: st) M Q := by
  by_cases hc : 0 < x
  · exact wm_st (fun p e R s m args below meth c H locs cells slots ls Qf hA hR hL k => lv_if_gt hA.1 hA.2.1 hd ht (fun _ => k) (fun q => absurd ((i32_gt0 hx).mpr hc) q)) (kt hc)
  · exact wm_st (fun p e R s m args below meth c H locs cells slots ls Qf hA hR hL k => lv_if_gt hA.1 hA.2.1 hd ht (fun q => absurd ((i32_gt0 hx).mp q) hc) (fun _ => k)) (kf hc)
theorem wm_icmp_gt {x z : Int} {off : Int} {tgt : Nat} (hd : decode y.2.1 pc = .ok (.if_icmp .gt off, 3)) (ht : (pc : Int) + off = (tgt : Int)) (hx : i32 x) (hz : i32 z) (kt : z < x → mWm G y d tgt L st M Q) (kf : ¬ (z < x) → mWm G y d (pc + 3) L st M Q) : mWm G y d pc L (vi z :: vi x :: st) M Q := by
  by_cases hc : z < x
  · exact wm_st (fun p e R s m args below meth c H locs cells slots ls Qf hA hR hL k => lv_icmp_gt hA.1 hA.2.1 hd ht (fun _ => k) (fun q => absurd ((i32_lt hz hx).mpr hc) q)) (kt hc)
  · exact wm_st (fun p e R s m args below meth c H locs cells slots ls Qf hA hR hL k => lv_icmp_gt hA.1 hA.2.1 hd ht (fun q => absurd ((i32_lt hz hx).mp q) hc) (fun _ => k)) (kf hc)
theorem wm_if_le {x : Int} {off : Int} {tgt : Nat} (hd : decode y.2.1 pc = .ok (.ifCond .le off, 3)) (ht : (pc : Int) + off = (tgt : Int)) (hx : i32 x) (kt : x ≤ 0 → mWm G y d tgt L st M Q) (kf : ¬ (x ≤ 0) → mWm G y d (pc + 3) L st M Q) : mWm G y d pc L (vi x :: st) M Q := by
  by_cases hc : x ≤ 0
  · exact wm_st (fun p e R s m args below meth c H locs cells slots ls Qf hA hR hL k => lv_if_le hA.1 hA.2.1 hd ht (fun _ => k) (fun q => absurd ((i32_le0 hx).mpr hc) q)) (kt hc)
  · exact wm_st (fun p e R s m args below meth c H locs cells slots ls Qf hA hR hL k => lv_if_le hA.1 hA.2.1 hd ht (fun q => absurd ((i32_le0 hx).mp q) hc) (fun _ => k)) (kf hc)
theorem wm_icmp_le {x z : Int} {off : Int} {tgt : Nat} (hd : decode y.2.1 pc = .ok (.if_icmp .le off, 3)) (ht : (pc : Int) + off = (tgt : Int)) (hx : i32 x) (hz : i32 z) (kt : x ≤ z → mWm G y d tgt L st M Q) (kf : ¬ (x ≤ z) → mWm G y d (pc + 3) L st M Q) : mWm G y d pc L (vi z :: vi x :: st) M Q := by
  by_cases hc : x ≤ z
  · exact wm_st (fun p e R s m args below meth c H locs cells slots ls Qf hA hR hL k => lv_icmp_le hA.1 hA.2.1 hd ht (fun _ => k) (fun q => absurd ((i32_le hx hz).mpr hc) q)) (kt hc)
  · exact wm_st (fun p e R s m args below meth c H locs cells slots ls Qf hA hR hL k => lv_icmp_le hA.1 hA.2.1 hd ht (fun q => absurd ((i32_le hx hz).mp q) hc) (fun _ => k)) (kf hc)
theorem wm_goto {off : Int} {tgt : Nat} (hd : decode y.2.1 pc = .ok (.goto off, 3)) (ht : (pc : Int) + off = (tgt : Int)) (h : mWm G y d tgt L st M Q) : mWm G y d pc L st M Q := wm_st (fun p e R s m args below meth c H locs cells slots ls Qf hA hR hL k => lv_goto hA.1 hA.2.1 hd ht k) h
theorem wm_ifnull {x : Nat} {off : Int} {tgt : Nat} (hd : decode y.2.1 pc = .ok (.ifnull off, 3)) (ht : (pc : Int) + off = (tgt : Int)) (kt : x = 0 → mWm G y d tgt L st M Q) (kf : ¬ x = 0 → mWm G y d (pc + 3) L st M Q) : mWm G y d pc L (vr x :: st) M Q := by
  by_cases hc : x = 0
  · have e9 : mcv (vr x) = .null := if_pos hc
    exact wm_st (fun p e R s m args below meth c H locs cells slots ls Qf hA hR hL k => by
      show W p (gL G) e R s m args below meth c H locs cells slots Qf (F0 m pc ls (mcv (vr x) :: st.map mcv))
      rw [e9]; exact lv_ifnullN hA.1 hA.2.1 hd ht k) (kt hc)
  · have e9 : mcv (vr x) = .ref x := if_neg hc
    exact wm_st (fun p e R s m args below meth c H locs cells slots ls Qf hA hR hL k => by
      show W p (gL G) e R s m args below meth c H locs cells slots Qf (F0 m pc ls (mcv (vr x) :: st.map mcv))
      rw [e9]; exact lv_ifnull hA.1 hA.2.1 hd k) (kf hc)
theorem wm_ifnonnull {x : Nat} {off : Int} {tgt : Nat} (hd : decode y.2.1 pc = .ok (.ifnonnull off, 3)) (ht : (pc : Int) + off = (tgt : Int)) (kt : ¬ x = 0 → mWm G y d tgt L st M Q) (kf : ¬ ¬ x = 0 → mWm G y d (pc + 3) L st M Q) : mWm G y d pc L (vr x :: st) M Q := by
  by_cases hc : x = 0
  · have e9 : mcv (vr x) = .null := if_pos hc
    exact wm_st (fun p e R s m args below meth c H locs cells slots ls Qf hA hR hL k => by
      show W p (gL G) e R s m args below meth c H locs cells slots Qf (F0 m pc ls (mcv (vr x) :: st.map mcv))
      rw [e9]; exact lv_ifnonnullN hA.1 hA.2.1 hd k) (kf (fun q => q hc))
  · have e9 : mcv (vr x) = .ref x := if_neg hc
    exact wm_st (fun p e R s m args below meth c H locs cells slots ls Qf hA hR hL k => by
      show W p (gL G) e R s m args below meth c H locs cells slots Qf (F0 m pc ls (mcv (vr x) :: st.map mcv))
      rw [e9]; exact lv_ifnonnull hA.1 hA.2.1 hd ht k) (kt hc)
end Rules
end
section
/-! THE FLAT MACHINE'S RULES for the heap. -/
theorem mOk_UI {M : mM} {a j : Nat} {x : Int} (h : mOk M) (hx : i32 x) : mOk (mUI M a j x) := by
  intro b k
  refine ⟨?_, (h b k).2⟩
  rw [mI_UI]
  split
  · exact hx
  · exact (h b k).1
theorem mOk_UL {M : mM} {a j : Nat} {x : Int} (h : mOk M) (hx : i64 x) : mOk (mUL M a j x) := by
  intro b k
  refine ⟨(h b k).1, ?_⟩
  rw [mL_UL]
  split
  · exact hx
  · exact (h b k).2
theorem mOk_UR {M : mM} {a j r : Nat} (h : mOk M) : mOk (mUR M a j r) := h
theorem mOk_New {M : mM} {k n c : Nat} (h : mOk M) : mOk (mNew M k n c) := by
  intro b j
  rw [mI_New, mL_New]
  split
  · exact ⟨⟨by decide, by decide⟩, ⟨by decide, by decide⟩⟩
  · exact h b j
theorem vwCl_lt {c : Nat} {r : vw_C} (h : vwCl[c]? = some r) : c < 20 := (List.getElem?_eq_some_iff.mp h).1
theorem arTy_lt {t : Nat} {ty : FieldType} (h : arTy[t]? = some ty) : t < 7 := (List.getElem?_eq_some_iff.mp h).1
theorem fV_UI {M : mM} {a k b j : Nat} {x : Int} (ty : FieldType) (h : ¬ (b = a ∧ j = k)) : fV ty (mUI M a k x) b j = fV ty M b j := by
  unfold fV
  split <;> try rfl
  rw [mI_UI, if_neg h]
theorem fV_UL {M : mM} {a k b j : Nat} {x : Int} (ty : FieldType) (h : ¬ (b = a ∧ j = k)) : fV ty (mUL M a k x) b j = fV ty M b j := by
  unfold fV
  split <;> try rfl
  rw [mL_UL, if_neg h]
theorem fV_UR {M : mM} {a k b j x : Nat} (ty : FieldType) (h : ¬ (b = a ∧ j = k)) : fV ty (mUR M a k x) b j = fV ty M b j := by
  unfold fV
  split <;> try rfl
  · rw [mR_UR, if_neg h]
  · rw [mR_UR, if_neg h]
theorem fV_New {M : mM} {k n c b j : Nat} (ty : FieldType) (h : ¬ b = mZ M) : fV ty (mNew M k n c) b j = fV ty M b j := by
  unfold fV
  split
  · rw [mL_New, if_neg h]
  · rw [mR_New, if_neg h]
  · rw [mR_New, if_neg h]
  · rw [mI_New, if_neg h]
section MR
variable {G : mG} {M M' : mM} {H H' : Heap}
/-- what another cell's change leaves -/
theorem mRep.keep (hR : mRep G M H) {b : Nat} (e : H'[b]? = H[b]?) (hk : mK M' b = mK M b) (hn : mN M' b = mN M b) (hv : ∀ ty j, fV ty M' b j = fV ty M b j) : mRepO G M' H' b ∧ mRepA G M' H' b ∧ mRepP G M' H' b := by
  obtain ⟨h1, h2, h3⟩ := hR.2.2.2.2.2.2 b
  refine ⟨fun c r t q1 q2 q3 => ?_, fun t ty q1 q2 => ?_, fun q1 => ?_⟩
  · obtain ⟨g1, g2⟩ := h1 c r t (by rw [← hk]; exact q1) q2 q3
    exact ⟨g1, (g2.kept e).to (fun k _ => (hv _ _).symm)⟩
  · obtain ⟨g1, g2, g3⟩ := h2 t ty (by rw [← hk]; exact q1) q2
    refine ⟨g1, by rw [hn]; exact g2, ?_⟩
    rw [e, g3, hn]
    congr 2
    funext j
    exact (hv ty j).symm
  · obtain ⟨g1, g2, cell, g3, g4, g5, g6, g7⟩ := h3 (by rw [← hk]; exact q1)
    refine ⟨g1, by rw [hn]; exact g2, cell, by rw [e]; exact g3, g4, g5, by rw [hn]; exact g6, fun j hj => ?_⟩
    rw [hn] at hj
    rw [g7 j hj]
    have := hv .int j
    exact congrArg some this.symm
theorem mRep.put (hR : mRep G M H) {a c k : Nat} {C : String} {T : u_T} {N : Nat} {t : Nat → FieldType} {v : Value} (hcl : vwCl[c]? = some (C, T, N)) (hty : vwTy[c]? = some t) (hk : k < N) (hK : mK M a = c + 1) (hap : ∀ x z, x < N → z < N → x ≠ z → (gD G).2 c x ≠ (gD G).2 c z)
    {cell : Cell} (hc : H[a]? = some cell) (e1 : H'[a]? = some (cell.setSlot ((gD G).2 c k) v)) (e2 : H'.size = H.size) (e3 : ∀ q, q ≠ a → H'[q]? = H[q]?)
    (m1 : mK M' = mK M) (m2 : mN M' = mN M) (m3 : mZ M' = mZ M) (hO : mOk M') (hv : ∀ ty b j, ¬ (b = a ∧ j = k) → fV ty M' b j = fV ty M b j) (hn : fV (t k) M' a k = v) : mRep G M' H' := by
  have hlt := vwCl_lt hcl
  obtain ⟨r1, r2, r3, r4, r5, r6, r7⟩ := hR
  have hR : mRep G M H := ⟨r1, r2, r3, r4, r5, r6, r7⟩
  obtain ⟨g1, cell', g2, g3, g4, g5⟩ := (r7 a).1 c _ t hK hcl hty
  have e9 : cell' = cell := Option.some.inj (g2.symm.trans hc)
  subst e9
  refine ⟨by rw [e2, m3]; exact r1, r2, by rw [m3]; exact r3, hO, fun q hq => by rw [e3 q (by have := r2.1; omega)]; exact r5 q hq, fun b hb => by rw [m1]; exact r6 b (by rw [← m3]; exact hb), fun b => ?_⟩
  by_cases hb : b = a
  · subst hb
    refine ⟨fun c' r' t' q1 q2 q3 => ?_, fun t' ty' q1 q2 => ?_, fun q1 => ?_⟩
    · have ec : c' = c := by rw [m1, hK] at q1; omega
      subst ec
      have er : r' = (C, T, N) := Option.some.inj (q2.symm.trans hcl)
      subst er
      have et : t' = t := Option.some.inj (q3.symm.trans hty)
      subst et
      refine ⟨g1, _, e1, g3, g4, fun j hj => ?_⟩
      rw [t_set g5 hap hk v j hj]
      unfold updV
      by_cases hjk : j = k
      · subst hjk; simp [hn]
      · simp [hjk, hv (t' j) b j (fun q => hjk q.2)]
    · have := arTy_lt q2; rw [m1, hK] at q1; omega
    · rw [m1, hK] at q1; omega
  · exact hR.keep (e3 b hb) (by rw [m1]) (by rw [m2]) (fun ty j => hv ty b j (fun q => hb q.1))
theorem mRep.sto (hR : mRep G M H) {a t j : Nat} {ty : FieldType} {v : Value} (hty : arTy[t]? = some ty) (hK : mK M a = 30 + t)
    (e1 : H'[a]? = some ((arrV (gA G t) (mN M a) (fun j => fV ty M a j)).setSlot j v)) (e2 : H'.size = H.size) (e3 : ∀ q, q ≠ a → H'[q]? = H[q]?)
    (m1 : mK M' = mK M) (m2 : mN M' = mN M) (m3 : mZ M' = mZ M) (hO : mOk M') (hv : ∀ ty b k, ¬ (b = a ∧ k = j) → fV ty M' b k = fV ty M b k) (hn : fV ty M' a j = v) : mRep G M' H' := by
  have hlt := arTy_lt hty
  obtain ⟨r1, r2, r3, r4, r5, r6, r7⟩ := hR
  have hR : mRep G M H := ⟨r1, r2, r3, r4, r5, r6, r7⟩
  obtain ⟨g1, g2, g3⟩ := (r7 a).2.1 t ty hK hty
  refine ⟨by rw [e2, m3]; exact r1, r2, by rw [m3]; exact r3, hO, fun q hq => by rw [e3 q (by have := r2.1; omega)]; exact r5 q hq, fun b hb => by rw [m1]; exact r6 b (by rw [← m3]; exact hb), fun b => ?_⟩
  by_cases hb : b = a
  · subst hb
    refine ⟨fun c' r' t' q1 q2 q3 => ?_, fun t' ty' q1 q2 => ?_, fun q1 => ?_⟩
    · have := vwCl_lt q2; rw [m1, hK] at q1; omega
    · have et : t' = t := by rw [m1, hK] at q1; omega
      subst et
      have ey : ty' = ty := Option.some.inj (q2.symm.trans hty)
      subst ey
      refine ⟨g1, by rw [m2]; exact g2, ?_⟩
      rw [e1, arrV_store, m2]
      congr 2
      funext k
      unfold updV
      by_cases hk : k = j
      · subst hk; simp [hn]
      · simp [hk, hv ty' b k (fun q => hk q.2)]
    · rw [m1, hK] at q1; omega
  · exact hR.keep (e3 b hb) (by rw [m1]) (by rw [m2]) (fun ty k => hv ty b k (fun q => hb q.1))
theorem mRep.own (hR : mRep G M H) {a : Nat} (h : gB G ≤ a) : mcv (vr a) = .ref a := if_neg (by have := hR.2.1.1; omega)
end MR
section HRules
variable {G : mG} {y : mY} {d pc : Nat} {L st : List mV} {M : mM} {Q : Option mV → mM → Prop}
theorem wm_get {c k idx a : Nat} {C : String} {T : u_T} {N : Nat} {t : Nat → FieldType} {v : mV} (hcl : vwCl[c]? = some (C, T, N)) (hty : vwTy[c]? = some t) (hin : ∀ w ∈ u_ws C T N, w ∈ lw_R) (hk : k < N) (hv : fV (t k) M a k = mcv v) (hl : Cond.fieldLink y.1.cls idx (T k).1 (T k).2.1 (T k).2.2.1 ∈ lw_R) (hd : decode y.2.1 pc = .ok (.getfield idx, 3)) (hK : mK M a = c + 1) (h : mWm G y d (pc + 3) L (v :: st) M Q) : mWm G y d pc L (vr a :: st) M Q :=
  wm_st (fun p e R s m args below meth co H locs cells slots ls Qf hA hR hL kk => by
    obtain ⟨hb1, cell, q1, q2, q3, q4⟩ := (hR.2.2.2.2.2.2 a).1 c _ t hK hcl hty
    obtain ⟨hx, hb, -, -, -, -, hown, hKK, hts, -⟩ := hA
    obtain ⟨hS, hfc, kC, hkC, hkind⟩ := hKK.1 c _ hcl
    obtain ⟨cf, kf, fi, f, hi, hsl⟩ := hS k hk
    show W p (gL G) e R s m args below meth co H locs cells slots Qf (F0 m pc ls (mcv (vr a) :: st.map mcv))
    rw [hR.own hb1]
    refine W.getf hx hb hown (hts _ hl) hi (u_facts hfc hkC (u_lays hts hin hk) hi).1 q1 (by rw [q3]; exact fun h => by cases h) (v := mcv v) ?_ rfl rfl hd kk
    rw [hsl, q4 k hk]
    exact congrArg some hv) h
theorem wm_getN {c k idx a : Nat} {host C : String} {T : u_T} {N : Nat} {t : Nat → FieldType} {v : mV} (hcl : vwCl[c]? = some (C, T, N)) (hty : vwTy[c]? = some t) (hin : ∀ w ∈ u_ws C T N, w ∈ lw_R) (hk : k < N) (hv : fV (t k) M a k = mcv v) (hl : Cond.fieldLinkNest y.1.cls idx (T k).1 (T k).2.1 (T k).2.2.1 host ∈ lw_R) (hd : decode y.2.1 pc = .ok (.getfield idx, 3)) (hK : mK M a = c + 1) (h : mWm G y d (pc + 3) L (v :: st) M Q) : mWm G y d pc L (vr a :: st) M Q :=
  wm_st (fun p e R s m args below meth co H locs cells slots ls Qf hA hR hL kk => by
    obtain ⟨hb1, cell, q1, q2, q3, q4⟩ := (hR.2.2.2.2.2.2 a).1 c _ t hK hcl hty
    obtain ⟨hx, hb, -, -, -, -, hown, hKK, hts, -⟩ := hA
    obtain ⟨hS, hfc, kC, hkC, hkind⟩ := hKK.1 c _ hcl
    obtain ⟨cf, kf, fi, f, hi, hsl⟩ := hS k hk
    show W p (gL G) e R s m args below meth co H locs cells slots Qf (F0 m pc ls (mcv (vr a) :: st.map mcv))
    rw [hR.own hb1]
    refine va_Wgetf hx hb hown (hts _ hl) hi (u_facts hfc hkC (u_lays hts hin hk) hi).1 q1 (by rw [q3]; exact fun h => by cases h) (v := mcv v) ?_ rfl rfl hd kk
    rw [hsl, q4 k hk]
    exact congrArg some hv) h
/-- a step that writes -/
theorem wm_wr {pc' : Nat} {st' : List mV} {M1 : mM} (hz : mZ M1 = mZ M) (hs1 : mS M1 = mS M) (hs : ∀ (p : Program) (e : Env) (R : Room) (s : State) (m : MethodId) (args : Array Value) (below : List Frame) (meth : Method) (c : Code) (H : Heap) (locs : List Loc) (cells slots : Nat) (ls : Array Slot) (Qf : State → Prop), mAt G y d p R s m args meth c → mRep G M H → (∀ q ∈ locs, mOwn G q.base) → mLs ls y.2.2.1 L → (∀ (H1 : Heap) (locs1 : List Loc), mRep G M1 H1 → (∀ q ∈ locs1, mOwn G q.base) → W p (gL G) e R s m args below meth c H1 locs1 cells slots Qf (F0 m pc' ls (st'.map mcv))) → W p (gL G) e R s m args below meth c H locs cells slots Qf (F0 m pc ls (st.map mcv))) (h : mWm G y d pc' L st' M1 Q) : mWm G y d pc L st M Q := by
  obtain ⟨r, M', ⟨h1, h2⟩, h3⟩ := h
  rw [hz, hs1] at h1
  refine ⟨r, M', ⟨h1, fun p e R s m args below meth c H locs cells slots ls hA hR hl hc hs' hL => hs p e R s m args below meth c H locs cells slots ls _ hA hR hl hL (fun H1 locs1 hR1 hl1 => ?_)⟩, h3⟩
  have := h2 p e R s m args below meth c H1 locs1 cells slots ls hA hR1 hl1 (by rw [hz]; exact hc) (by rw [hs1]; exact hs') hL
  rw [hz, hs1] at this
  exact this
theorem m_own1 {locs : List Loc} {a j : Nat} (hl : ∀ q ∈ locs, mOwn G q.base) (ha : gB G ≤ a) : ∀ q ∈ locs ++ [⟨a, j⟩], mOwn G q.base := t_lc hl ha
theorem wm_put {c k idx a : Nat} {C : String} {T : u_T} {N : Nat} {t : Nat → FieldType} {v : mV} {M1 : mM} (hcl : vwCl[c]? = some (C, T, N)) (hty : vwTy[c]? = some t) (hin : ∀ w ∈ u_ws C T N, w ∈ lw_R) (hpd : ∀ k, k < N → parseFieldDescriptor (T k).2.2.1 = some (t k)) (hnm : ∀ a, a < N → ∀ b, b < N → a ≠ b → (T a).2.1 ≠ (T b).2.1) (hk : k < N) (hfin : (T k).2.2.2 = false) (hl : Cond.fieldLink y.1.cls idx (T k).1 (T k).2.1 (T k).2.2.1 ∈ lw_R) (hn : narrow (t k) (mcv v) = mcv v) (hfit : fits (t k) (mcv v) = true)
    (m1 : mK M1 = mK M) (m2 : mN M1 = mN M) (m3 : mZ M1 = mZ M) (m4 : mS M1 = mS M) (hO : mOk M → mOk M1) (hv : ∀ ty b j, ¬ (b = a ∧ j = k) → fV ty M1 b j = fV ty M b j) (hnv : fV (t k) M1 a k = mcv v)
    (hd : decode y.2.1 pc = .ok (.putfield idx, 3)) (hK : mK M a = c + 1) (h : mWm G y d (pc + 3) L st M1 Q) : mWm G y d pc L (v :: vr a :: st) M Q :=
  wm_wr m3 m4 (fun p e R s m args below meth co H locs cells slots ls Qf hA hR hlo hL kk => by
    obtain ⟨hb1, cell, q1, q2, q3, q4⟩ := (hR.2.2.2.2.2.2 a).1 c _ t hK hcl hty
    obtain ⟨hx, hb, -, -, -, -, hown, hKK, hts, -⟩ := hA
    have hap := va_apart (own := y.1.cls) (args := args) hts hin t hpd hnm hKK hcl
    obtain ⟨hS, hfc, kC, hkC, hkind⟩ := hKK.1 c _ hcl
    obtain ⟨cf, kf, fi, f, hi, hsl⟩ := hS k hk
    have hlay := hts _ (hin _ (u_in_lay hk))
    unfold u_lay at hlay
    rw [if_neg (by rw [hfin]; decide)] at hlay
    have hst := (u_facts hfc hkC (u_lays hts hin hk) hi).1
    have h6 := u_store hfc hkC hkind hlay hi (hpd k hk) hn hfit
    show W p (gL G) e R s m args below meth co H locs cells slots Qf (F0 m pc ls (mcv v :: mcv (vr a) :: st.map mcv))
    rw [hR.own hb1]
    refine W.putK hx hb (f := f) ⟨hown, hts _ hl, ⟨_, _, _, hi⟩, hst⟩ (by rw [q2]; exact h6) q1 q3 (by rw [hsl]; exact k2_hasslot (q4 k hk)) rfl rfl hd fun H' e1 e2 e3 => ?_
    rw [hsl] at e1
    exact kk H' _ (hR.put hcl hty hk hK hap q1 e1 e2 e3 m1 m2 m3 (hO hR.2.2.2.1) hv hnv) (m_own1 hlo hb1)) h
theorem wm_putN {c k idx a : Nat} {host C : String} {T : u_T} {N : Nat} {t : Nat → FieldType} {v : mV} {M1 : mM} (hcl : vwCl[c]? = some (C, T, N)) (hty : vwTy[c]? = some t) (hin : ∀ w ∈ u_ws C T N, w ∈ lw_R) (hpd : ∀ k, k < N → parseFieldDescriptor (T k).2.2.1 = some (t k)) (hnm : ∀ a, a < N → ∀ b, b < N → a ≠ b → (T a).2.1 ≠ (T b).2.1) (hk : k < N) (hfin : (T k).2.2.2 = false) (hl : Cond.fieldLinkNest y.1.cls idx (T k).1 (T k).2.1 (T k).2.2.1 host ∈ lw_R) (hn : narrow (t k) (mcv v) = mcv v) (hfit : fits (t k) (mcv v) = true)
    (m1 : mK M1 = mK M) (m2 : mN M1 = mN M) (m3 : mZ M1 = mZ M) (m4 : mS M1 = mS M) (hO : mOk M → mOk M1) (hv : ∀ ty b j, ¬ (b = a ∧ j = k) → fV ty M1 b j = fV ty M b j) (hnv : fV (t k) M1 a k = mcv v)
    (hd : decode y.2.1 pc = .ok (.putfield idx, 3)) (hK : mK M a = c + 1) (h : mWm G y d (pc + 3) L st M1 Q) : mWm G y d pc L (v :: vr a :: st) M Q :=
  wm_wr m3 m4 (fun p e R s m args below meth co H locs cells slots ls Qf hA hR hlo hL kk => by
    obtain ⟨hb1, cell, q1, q2, q3, q4⟩ := (hR.2.2.2.2.2.2 a).1 c _ t hK hcl hty
    obtain ⟨hx, hb, -, -, -, -, hown, hKK, hts, -⟩ := hA
    have hap := va_apart (own := y.1.cls) (args := args) hts hin t hpd hnm hKK hcl
    obtain ⟨hS, hfc, kC, hkC, hkind⟩ := hKK.1 c _ hcl
    obtain ⟨cf, kf, fi, f, hi, hsl⟩ := hS k hk
    have hlay := hts _ (hin _ (u_in_lay hk))
    unfold u_lay at hlay
    rw [if_neg (by rw [hfin]; decide)] at hlay
    have hst := (u_facts hfc hkC (u_lays hts hin hk) hi).1
    have h6 := u_store hfc hkC hkind hlay hi (hpd k hk) hn hfit
    show W p (gL G) e R s m args below meth co H locs cells slots Qf (F0 m pc ls (mcv v :: mcv (vr a) :: st.map mcv))
    rw [hR.own hb1]
    refine va_WputK hx hb (f := f) hown (hts _ hl) hi hst (by rw [q2]; exact h6) q1 q3 (by rw [hsl]; exact k2_hasslot (q4 k hk)) rfl rfl hd fun H' e1 e2 e3 => ?_
    rw [hsl] at e1
    exact kk H' _ (hR.put hcl hty hk hK hap q1 e1 e2 e3 m1 m2 m3 (hO hR.2.2.2.1) hv hnv) (m_own1 hlo hb1)) h
theorem wm_putF {c k idx a : Nat} {C : String} {T : u_T} {N : Nat} {t : Nat → FieldType} {v : mV} {M1 : mM} (hcl : vwCl[c]? = some (C, T, N)) (hty : vwTy[c]? = some t) (hin : ∀ w ∈ u_ws C T N, w ∈ lw_R) (hpd : ∀ k, k < N → parseFieldDescriptor (T k).2.2.1 = some (t k)) (hnm : ∀ a, a < N → ∀ b, b < N → a ≠ b → (T a).2.1 ≠ (T b).2.1) (hk : k < N) (hfin : (T k).2.2.2 = true) (hini : y.1.name = "<init>") (hdecl : (T k).1 = y.1.cls) (hl : Cond.fieldLink y.1.cls idx (T k).1 (T k).2.1 (T k).2.2.1 ∈ lw_R) (hn : narrow (t k) (mcv v) = mcv v) (hfit : fits (t k) (mcv v) = true)
    (m1 : mK M1 = mK M) (m2 : mN M1 = mN M) (m3 : mZ M1 = mZ M) (m4 : mS M1 = mS M) (hO : mOk M → mOk M1) (hv : ∀ ty b j, ¬ (b = a ∧ j = k) → fV ty M1 b j = fV ty M b j) (hnv : fV (t k) M1 a k = mcv v)
    (hd : decode y.2.1 pc = .ok (.putfield idx, 3)) (hK : mK M a = c + 1) (h : mWm G y d (pc + 3) L st M1 Q) : mWm G y d pc L (v :: vr a :: st) M Q :=
  wm_wr m3 m4 (fun p e R s m args below meth co H locs cells slots ls Qf hA hR hlo hL kk => by
    obtain ⟨hb1, cell, q1, q2, q3, q4⟩ := (hR.2.2.2.2.2.2 a).1 c _ t hK hcl hty
    obtain ⟨hx, hb, -, -, -, hnam, hown, hKK, hts, -⟩ := hA
    have hap := va_apart (own := y.1.cls) (args := args) hts hin t hpd hnm hKK hcl
    obtain ⟨hS, hfc, kC, hkC, hkind⟩ := hKK.1 c _ hcl
    obtain ⟨cf, kf, fi, f, hi, hsl⟩ := hS k hk
    have hlay := hts _ (hin _ (u_in_lay hk))
    unfold u_lay at hlay
    rw [if_pos hfin] at hlay
    have hst := (u_facts hfc hkC (u_lays hts hin hk) hi).1
    have hcf : m.cls = cf := by
      obtain ⟨_, _, c', _, _, _, -, -, hf', -, -, -, hown2, -⟩ := Cond.laysFinal_spec hlay
      have e1 : c' = cf := by have := hi.symm.trans hf'; simp at this; exact this.1.symm
      rw [hdecl] at hown2
      rw [← e1]; exact Option.some.inj (hown.symm.trans hown2)
    have h6 := u_fits hfc hkC hkind (Or.inr hlay) hi (hpd k hk) hn hfit
    show W p (gL G) e R s m args below meth co H locs cells slots Qf (F0 m pc ls (mcv v :: mcv (vr a) :: st.map mcv))
    rw [hR.own hb1]
    refine W.putFinK hx hb hown (hts _ hl) hi hst hcf (hnam.trans hini) (by rw [q2]; exact h6) q1 q3 (by rw [hsl]; exact k2_hasslot (q4 k hk)) rfl rfl hd fun H' e1 e2 e3 => ?_
    rw [hsl] at e1
    exact kk H' _ (hR.put hcl hty hk hK hap q1 e1 e2 e3 m1 m2 m3 (hO hR.2.2.2.1) hv hnv) (m_own1 hlo hb1)) h
end HRules
end
section
/-! THE FLAT MACHINE'S RULES for arrays, new cells, ends and calls. -/
section ARules
variable {G : mG} {y : mY} {d pc : Nat} {L st : List mV} {M : mM} {Q : Option mV → mM → Prop}
theorem wm_iald {a : Nat} {i : Int} (hd : decode y.2.1 pc = .ok (.iaload, 1)) (hK : mK M a = 30) (hi : 0 ≤ i ∧ i < mN M a) (h : mWm G y d (pc + 1) L (vi (mI M a i.toNat) :: st) M Q) : mWm G y d pc L (vi i :: vr a :: st) M Q :=
  wm_st (fun p e R s m args below meth co H locs cells slots ls Qf hA hR hL kk => by
    obtain ⟨g1, g2, g3⟩ := (hR.2.2.2.2.2.2 a).2.1 0 .int hK rfl
    obtain ⟨hx, hb, -, -, -, -, hown, hKK, hts, -⟩ := hA
    have hi3 : i32 i := ⟨by omega, by omega⟩
    show W p (gL G) e R s m args below meth co H locs cells slots Qf (F0 m pc ls (.int (Int32.ofInt i) :: mcv (vr a) :: st.map mcv))
    rw [hR.own g1]
    exact W.iald (v := mcv (vi (mI M a i.toNat))) hx hb g3 ((hKK.2 0 _ rfl).1 _ _) (fun q => by cases q) (by rw [arrV_size]; exact i32_in hi g2) (by rw [i32_clamp hi3, arrV_read _ _ (by omega)]; rfl) rfl rfl hd kk) h
theorem wm_zald {a : Nat} {i : Int} (hd : decode y.2.1 pc = .ok (.baload, 1)) (hK : mK M a = 31) (hi : 0 ≤ i ∧ i < mN M a) (h : mWm G y d (pc + 1) L (vi (mI M a i.toNat) :: st) M Q) : mWm G y d pc L (vi i :: vr a :: st) M Q :=
  wm_st (fun p e R s m args below meth co H locs cells slots ls Qf hA hR hL kk => by
    obtain ⟨g1, g2, g3⟩ := (hR.2.2.2.2.2.2 a).2.1 1 .boolean hK rfl
    obtain ⟨hx, hb, -, -, -, -, hown, hKK, hts, -⟩ := hA
    have hi3 : i32 i := ⟨by omega, by omega⟩
    show W p (gL G) e R s m args below meth co H locs cells slots Qf (F0 m pc ls (.int (Int32.ofInt i) :: mcv (vr a) :: st.map mcv))
    rw [hR.own g1]
    exact W.zald (v := mcv (vi (mI M a i.toNat))) hx hb g3 ((hKK.2 1 _ rfl).1 _ _) (fun q => by cases q) (by rw [arrV_size]; exact i32_in hi g2) (by rw [i32_clamp hi3, arrV_read _ _ (by omega)]; rfl) rfl rfl hd kk) h
theorem wm_cald {a : Nat} {i : Int} (hd : decode y.2.1 pc = .ok (.caload, 1)) (hK : mK M a = 32) (hi : 0 ≤ i ∧ i < mN M a) (h : mWm G y d (pc + 1) L (vi (mI M a i.toNat) :: st) M Q) : mWm G y d pc L (vi i :: vr a :: st) M Q :=
  wm_st (fun p e R s m args below meth co H locs cells slots ls Qf hA hR hL kk => by
    obtain ⟨g1, g2, g3⟩ := (hR.2.2.2.2.2.2 a).2.1 2 .char hK rfl
    obtain ⟨hx, hb, -, -, -, -, hown, hKK, hts, -⟩ := hA
    have hi3 : i32 i := ⟨by omega, by omega⟩
    show W p (gL G) e R s m args below meth co H locs cells slots Qf (F0 m pc ls (.int (Int32.ofInt i) :: mcv (vr a) :: st.map mcv))
    rw [hR.own g1]
    exact W.cald (v := mcv (vi (mI M a i.toNat))) hx hb g3 ((hKK.2 2 _ rfl).1 _ _) (fun q => by cases q) (by rw [arrV_size]; exact i32_in hi g2) (by rw [i32_clamp hi3, arrV_read _ _ (by omega)]; rfl) rfl rfl hd kk) h
theorem wm_lald {a : Nat} {i : Int} (hd : decode y.2.1 pc = .ok (.laload, 1)) (hK : mK M a = 33) (hi : 0 ≤ i ∧ i < mN M a) (h : mWm G y d (pc + 1) L (vl (mL M a i.toNat) :: st) M Q) : mWm G y d pc L (vi i :: vr a :: st) M Q :=
  wm_st (fun p e R s m args below meth co H locs cells slots ls Qf hA hR hL kk => by
    obtain ⟨g1, g2, g3⟩ := (hR.2.2.2.2.2.2 a).2.1 3 .long hK rfl
    obtain ⟨hx, hb, -, -, -, -, hown, hKK, hts, -⟩ := hA
    have hi3 : i32 i := ⟨by omega, by omega⟩
    show W p (gL G) e R s m args below meth co H locs cells slots Qf (F0 m pc ls (.int (Int32.ofInt i) :: mcv (vr a) :: st.map mcv))
    rw [hR.own g1]
    exact W.lald (v := mcv (vl (mL M a i.toNat))) hx hb g3 ((hKK.2 3 _ rfl).1 _ _) (fun q => by cases q) (by rw [arrV_size]; exact i32_in hi g2) (by rw [i32_clamp hi3, arrV_read _ _ (by omega)]; rfl) rfl rfl hd kk) h
theorem wm_aald4 {a : Nat} {i : Int} (hd : decode y.2.1 pc = .ok (.aaload, 1)) (hK : mK M a = 34) (hi : 0 ≤ i ∧ i < mN M a) (h : mWm G y d (pc + 1) L (vr (mR M a i.toNat) :: st) M Q) : mWm G y d pc L (vi i :: vr a :: st) M Q :=
  wm_st (fun p e R s m args below meth co H locs cells slots ls Qf hA hR hL kk => by
    obtain ⟨g1, g2, g3⟩ := (hR.2.2.2.2.2.2 a).2.1 4 (.object "ChanceArena$Natural") hK rfl
    obtain ⟨hx, hb, -, -, -, -, hown, hKK, hts, -⟩ := hA
    have hi3 : i32 i := ⟨by omega, by omega⟩
    show W p (gL G) e R s m args below meth co H locs cells slots Qf (F0 m pc ls (.int (Int32.ofInt i) :: mcv (vr a) :: st.map mcv))
    rw [hR.own g1]
    exact W.aald (ty := (.object "ChanceArena$Natural")) (v := mcv (vr (mR M a i.toNat))) hx hb g3 ((hKK.2 4 _ rfl).1 _ _) rfl (fun q => by cases q) (by rw [arrV_size]; exact i32_in hi g2) (by rw [i32_clamp hi3, arrV_read _ _ (by omega)]; rfl) rfl rfl hd kk) h
theorem wm_aald5 {a : Nat} {i : Int} (hd : decode y.2.1 pc = .ok (.aaload, 1)) (hK : mK M a = 35) (hi : 0 ≤ i ∧ i < mN M a) (h : mWm G y d (pc + 1) L (vr (mR M a i.toNat) :: st) M Q) : mWm G y d pc L (vi i :: vr a :: st) M Q :=
  wm_st (fun p e R s m args below meth co H locs cells slots ls Qf hA hR hL kk => by
    obtain ⟨g1, g2, g3⟩ := (hR.2.2.2.2.2.2 a).2.1 5 (.object "ChanceArena$Fraction") hK rfl
    obtain ⟨hx, hb, -, -, -, -, hown, hKK, hts, -⟩ := hA
    have hi3 : i32 i := ⟨by omega, by omega⟩
    show W p (gL G) e R s m args below meth co H locs cells slots Qf (F0 m pc ls (.int (Int32.ofInt i) :: mcv (vr a) :: st.map mcv))
    rw [hR.own g1]
    exact W.aald (ty := (.object "ChanceArena$Fraction")) (v := mcv (vr (mR M a i.toNat))) hx hb g3 ((hKK.2 5 _ rfl).1 _ _) rfl (fun q => by cases q) (by rw [arrV_size]; exact i32_in hi g2) (by rw [i32_clamp hi3, arrV_read _ _ (by omega)]; rfl) rfl rfl hd kk) h
theorem wm_aald6 {a : Nat} {i : Int} (hd : decode y.2.1 pc = .ok (.aaload, 1)) (hK : mK M a = 36) (hi : 0 ≤ i ∧ i < mN M a) (h : mWm G y d (pc + 1) L (vr (mR M a i.toNat) :: st) M Q) : mWm G y d pc L (vi i :: vr a :: st) M Q :=
  wm_st (fun p e R s m args below meth co H locs cells slots ls Qf hA hR hL kk => by
    obtain ⟨g1, g2, g3⟩ := (hR.2.2.2.2.2.2 a).2.1 6 (.object "ChanceArenaModel$Fraction") hK rfl
    obtain ⟨hx, hb, -, -, -, -, hown, hKK, hts, -⟩ := hA
    have hi3 : i32 i := ⟨by omega, by omega⟩
    show W p (gL G) e R s m args below meth co H locs cells slots Qf (F0 m pc ls (.int (Int32.ofInt i) :: mcv (vr a) :: st.map mcv))
    rw [hR.own g1]
    exact W.aald (ty := (.object "ChanceArenaModel$Fraction")) (v := mcv (vr (mR M a i.toNat))) hx hb g3 ((hKK.2 6 _ rfl).1 _ _) rfl (fun q => by cases q) (by rw [arrV_size]; exact i32_in hi g2) (by rw [i32_clamp hi3, arrV_read _ _ (by omega)]; rfl) rfl rfl hd kk) h
theorem wm_alen {a : Nat} (t : Nat) {ty : FieldType} (hty : arTy[t]? = some ty) (hz : ∀ tA, (zT tA)[t]? = some (tA t, ty)) (hd : decode y.2.1 pc = .ok (.arraylength, 1)) (hK : mK M a = 30 + t) (h : mWm G y d (pc + 1) L (vi (mN M a : Int) :: st) M Q) : mWm G y d pc L (vr a :: st) M Q :=
  wm_st (fun p e R s m args below meth co H locs cells slots ls Qf hA hR hL kk => by
    obtain ⟨g1, g2, g3⟩ := (hR.2.2.2.2.2.2 a).2.1 t ty hK hty
    obtain ⟨hx, hb, -, -, -, -, hown, hKK, hts, -, hvm, -⟩ := hA
    show W p (gL G) e R s m args below meth co H locs cells slots Qf (F0 m pc ls (mcv (vr a) :: st.map mcv))
    rw [hR.own g1]
    exact W.alen (n := Int32.ofInt (mN M a : Int)) hx hb g3 ((hKK.2 t _ (hz _)).1 _ _) (by rw [arrV_size]; rfl) rfl rfl hd kk) h
theorem wm_iast {a : Nat} {i x : Int} (hd : decode y.2.1 pc = .ok (.iastore, 1)) (hK : mK M a = 30) (hi : 0 ≤ i ∧ i < mN M a) (hx3 : i32 x) (h : mWm G y d (pc + 1) L st (mUI M a i.toNat x) Q) : mWm G y d pc L (vi x :: vi i :: vr a :: st) M Q :=
  wm_wr (M1 := mUI M a i.toNat x) rfl rfl (fun p e R s m args below meth co H locs cells slots ls Qf hA hR hlo hL kk => by
    obtain ⟨g1, g2, g3⟩ := (hR.2.2.2.2.2.2 a).2.1 0 .int hK rfl
    obtain ⟨hx, hb, -, -, -, -, hown, hKK, hts, -⟩ := hA
    have hi3 : i32 i := ⟨by omega, by omega⟩
    show W p (gL G) e R s m args below meth co H locs cells slots Qf (F0 m pc ls (mcv (vi x) :: .int (Int32.ofInt i) :: mcv (vr a) :: st.map mcv))
    rw [hR.own g1]
    refine W.iast hx hb g3 ((hKK.2 0 _ rfl).1 _ _) (fun q => by cases q) (by rw [arrV_size]; exact i32_in hi g2) rfl rfl hd fun H' e1 e2 e3 => ?_
    rw [i32_clamp hi3] at e1
    exact kk H' _ (hR.sto (M' := mUI M a i.toNat x) (ty := .int) (v := mcv (vi x)) rfl hK e1 e2 e3 rfl rfl rfl (mOk_UI hR.2.2.2.1 hx3) (fun ty9 b9 k9 q9 => fV_UI ty9 q9) (by show mcv (vi (if _ then _ else _)) = _; rw [if_pos ⟨rfl, rfl⟩])) (m_own1 hlo g1)) h
theorem wm_zast {a : Nat} {i x : Int} (hd : decode y.2.1 pc = .ok (.bastore, 1)) (hK : mK M a = 31) (hi : 0 ≤ i ∧ i < mN M a) (hx3 : x = 0 ∨ x = 1) (h : mWm G y d (pc + 1) L st (mUI M a i.toNat x) Q) : mWm G y d pc L (vi x :: vi i :: vr a :: st) M Q :=
  wm_wr (M1 := mUI M a i.toNat x) rfl rfl (fun p e R s m args below meth co H locs cells slots ls Qf hA hR hlo hL kk => by
    obtain ⟨g1, g2, g3⟩ := (hR.2.2.2.2.2.2 a).2.1 1 .boolean hK rfl
    obtain ⟨hx, hb, -, -, -, -, hown, hKK, hts, -⟩ := hA
    have hi3 : i32 i := ⟨by omega, by omega⟩
    show W p (gL G) e R s m args below meth co H locs cells slots Qf (F0 m pc ls (mcv (vi x) :: .int (Int32.ofInt i) :: mcv (vr a) :: st.map mcv))
    rw [hR.own g1]
    refine W.zast hx hb g3 ((hKK.2 1 _ rfl).1 _ _) (fun q => by cases q) (by rw [arrV_size]; exact i32_in hi g2) rfl rfl hd fun H' e1 e2 e3 => ?_
    rw [i32_clamp hi3] at e1
    rw [show narrow .boolean (.int (Int32.ofInt x)) = mcv (vi x) by rcases hx3 with q | q <;> subst q <;> rfl] at e1
    exact kk H' _ (hR.sto (M' := mUI M a i.toNat x) (ty := .boolean) (v := mcv (vi x)) rfl hK e1 e2 e3 rfl rfl rfl (mOk_UI hR.2.2.2.1 (by rcases hx3 with q | q <;> subst q <;> exact ⟨by decide, by decide⟩)) (fun ty9 b9 k9 q9 => fV_UI ty9 q9) (by show mcv (vi (if _ then _ else _)) = _; rw [if_pos ⟨rfl, rfl⟩])) (m_own1 hlo g1)) h
theorem m_char {x : Int} (hx : 0 ≤ x ∧ x < 65536) : narrow .char (.int (Int32.ofInt x)) = mcv (vi x) := by
  have e : Int32.ofInt x = nI x.toNat := by
    rw [← Int32.toInt_inj, i32_toInt ⟨by omega, by omega⟩, nI_toInt (by omega)]
    omega
  show _ = Value.int (Int32.ofInt x)
  rw [e]
  exact (pk_charN (by omega)).1
theorem wm_cast {a : Nat} {i x : Int} (hd : decode y.2.1 pc = .ok (.castore, 1)) (hK : mK M a = 32) (hi : 0 ≤ i ∧ i < mN M a) (hx3 : 0 ≤ x ∧ x < 65536) (h : mWm G y d (pc + 1) L st (mUI M a i.toNat x) Q) : mWm G y d pc L (vi x :: vi i :: vr a :: st) M Q :=
  wm_wr (M1 := mUI M a i.toNat x) rfl rfl (fun p e R s m args below meth co H locs cells slots ls Qf hA hR hlo hL kk => by
    obtain ⟨g1, g2, g3⟩ := (hR.2.2.2.2.2.2 a).2.1 2 .char hK rfl
    obtain ⟨hx, hb, -, -, -, -, hown, hKK, hts, -⟩ := hA
    have hi3 : i32 i := ⟨by omega, by omega⟩
    show W p (gL G) e R s m args below meth co H locs cells slots Qf (F0 m pc ls (mcv (vi x) :: .int (Int32.ofInt i) :: mcv (vr a) :: st.map mcv))
    rw [hR.own g1]
    refine W.cast hx hb g3 ((hKK.2 2 _ rfl).1 _ _) (fun q => by cases q) (by rw [arrV_size]; exact i32_in hi g2) rfl rfl hd fun H' e1 e2 e3 => ?_
    rw [i32_clamp hi3] at e1
    rw [show narrow .char (.int (Int32.ofInt x)) = mcv (vi x) from m_char hx3] at e1
    exact kk H' _ (hR.sto (M' := mUI M a i.toNat x) (ty := .char) (v := mcv (vi x)) rfl hK e1 e2 e3 rfl rfl rfl (mOk_UI hR.2.2.2.1 ⟨by omega, by omega⟩) (fun ty9 b9 k9 q9 => fV_UI ty9 q9) (by show mcv (vi (if _ then _ else _)) = _; rw [if_pos ⟨rfl, rfl⟩])) (m_own1 hlo g1)) h
theorem wm_last {a : Nat} {i x : Int} (hd : decode y.2.1 pc = .ok (.lastore, 1)) (hK : mK M a = 33) (hi : 0 ≤ i ∧ i < mN M a) (hx3 : i64 x) (h : mWm G y d (pc + 1) L st (mUL M a i.toNat x) Q) : mWm G y d pc L (vl x :: vi i :: vr a :: st) M Q :=
  wm_wr (M1 := mUL M a i.toNat x) rfl rfl (fun p e R s m args below meth co H locs cells slots ls Qf hA hR hlo hL kk => by
    obtain ⟨g1, g2, g3⟩ := (hR.2.2.2.2.2.2 a).2.1 3 .long hK rfl
    obtain ⟨hx, hb, -, -, -, -, hown, hKK, hts, -⟩ := hA
    have hi3 : i32 i := ⟨by omega, by omega⟩
    show W p (gL G) e R s m args below meth co H locs cells slots Qf (F0 m pc ls (mcv (vl x) :: .int (Int32.ofInt i) :: mcv (vr a) :: st.map mcv))
    rw [hR.own g1]
    refine W.last hx hb g3 ((hKK.2 3 _ rfl).1 _ _) (fun q => by cases q) (by rw [arrV_size]; exact i32_in hi g2) rfl rfl hd fun H' e1 e2 e3 => ?_
    rw [i32_clamp hi3] at e1
    exact kk H' _ (hR.sto (M' := mUL M a i.toNat x) (ty := .long) (v := mcv (vl x)) rfl hK e1 e2 e3 rfl rfl rfl (mOk_UL hR.2.2.2.1 hx3) (fun ty9 b9 k9 q9 => fV_UL ty9 q9) (by show mcv (vl (if _ then _ else _)) = _; rw [if_pos ⟨rfl, rfl⟩])) (m_own1 hlo g1)) h
/-- a step that makes a cell -/
theorem wm_al {pc' : Nat} {st' : List mV} {k n cs : Nat} (hs : ∀ (p : Program) (e : Env) (R : Room) (s : State) (m : MethodId) (args : Array Value) (below : List Frame) (meth : Method) (c : Code) (H : Heap) (locs : List Loc) (cells slots : Nat) (ls : Array Slot) (Qf : State → Prop), mAt G y d p R s m args meth c → mRep G M H → cells + 1 ≤ R.cells → slots + cs ≤ R.slots → mLs ls y.2.2.1 L → (∀ (H1 : Heap), mRep G (mNew M k n cs) H1 → W p (gL G) e R s m args below meth c H1 locs (cells + 1) (slots + cs) Qf (F0 m pc' ls (st'.map mcv))) → W p (gL G) e R s m args below meth c H locs cells slots Qf (F0 m pc ls (st.map mcv))) (h : mWm G y d pc' L st' (mNew M k n cs) Q) : mWm G y d pc L st M Q := by
  obtain ⟨r, M', ⟨h1, h2⟩, h3⟩ := h
  rw [mZ_New, mS_New] at h1
  refine ⟨r, M', ⟨⟨by omega, by omega⟩, fun p e R s m args below meth c H locs cells slots ls hA hR hl hc hs' hL => hs p e R s m args below meth c H locs cells slots ls _ hA hR (by omega) (by omega) hL (fun H1 hR1 => ?_)⟩, h3⟩
  have := h2 p e R s m args below meth c H1 locs (cells + 1) (slots + cs) ls hA hR1 hl (by rw [mZ_New]; omega) (by rw [mS_New]; omega) hL
  rw [mZ_New, mS_New] at this
  rw [show cells + (mZ M' - mZ M) = cells + 1 + (mZ M' - (mZ M + 1)) by first | rfl | omega, show slots + (mS M' - mS M) = slots + cs + (mS M' - (mS M + cs)) by first | rfl | omega]
  exact this
theorem mRep.new {H H' : Heap} (hR : mRep G M H) {k n cs : Nat} (z1 : H'.size = H.size + 1) (o1 : ∀ q, q < H.size → H'[q]? = H[q]?) (hn : mRepO G (mNew M k n cs) H' (mZ M) ∧ mRepA G (mNew M k n cs) H' (mZ M) ∧ mRepP G (mNew M k n cs) H' (mZ M)) : mRep G (mNew M k n cs) H' := by
  obtain ⟨r1, r2, r3, r4, r5, r6, r7⟩ := hR
  have hR : mRep G M H := ⟨r1, r2, r3, r4, r5, r6, r7⟩
  refine ⟨by rw [z1, mZ_New, r1], r2, by rw [mZ_New]; omega, mOk_New r4, fun q hq => by rw [o1 q (by omega)]; exact r5 q hq, fun b hb => ?_, fun b => ?_⟩
  · rw [mZ_New] at hb
    rw [mK_New, if_neg (by omega)]
    exact r6 b (by omega)
  · by_cases hb : b = mZ M
    · subst hb; exact hn
    · by_cases hl : b < mZ M
      · exact hR.keep (o1 b (by omega)) (by rw [mK_New, if_neg hb]) (by rw [mN_New, if_neg hb]) (fun ty j => fV_New ty hb)
      · have h0 : mK (mNew M k n cs) b = 0 := by rw [mK_New, if_neg hb]; exact r6 b (by omega)
        refine ⟨fun c r t q1 => ?_, fun t ty q1 => ?_, fun q1 => ?_⟩
        · rw [h0] at q1; omega
        · rw [h0] at q1; omega
        · rw [h0] at q1; omega
def dV (ty : FieldType) : Value := match ty with
  | .long => .long 0
  | .object _ => .null
  | .array _ => .null
  | _ => .int 0
theorem fV_zero {k n cs j : Nat} (ty : FieldType) : fV ty (mNew M k n cs) (mZ M) j = dV ty := by
  cases ty <;> simp only [fV, dV, mL_New, mR_New, mI_New, if_true] <;> rfl
theorem wm_new {c idx : Nat} {C : String} {T : u_T} {N : Nat} {t : Nat → FieldType} (hcl : vwCl[c]? = some (C, T, N)) (hty : vwTy[c]? = some t) (hin : ∀ w ∈ u_ws C T N, w ∈ lw_R) (hpd : ∀ k, k < N → parseFieldDescriptor (T k).2.2.1 = some (t k)) (hw1 : Cond.classLink y.1.cls idx C ∈ lw_R) (hw2 : Cond.instantiable C N ∈ lw_R) (hw3 : Cond.initialized C ∈ lw_R) (hdf : ∀ k, k < N → defaultValue (t k) = dV (t k)) (hd : decode y.2.1 pc = .ok (.new idx, 3)) (h : mWm G y d (pc + 3) L (vr (mZ M) :: st) (mNew M (c + 1) 0 N) Q) : mWm G y d pc L st M Q :=
  wm_al (fun p e R s m args below meth co H locs cells slots ls Qf hA hR hc hs hL kk => by
    obtain ⟨hx, hb, -, -, -, -, hown, hKK, hts, -⟩ := hA
    have hKn := hKK.1 c _ hcl
    have hz : mcv (vr (mZ M)) = .ref (mZ M) := hR.own hR.2.2.1
    refine W.newcK hx hb hown (hts _ hw1) (hts _ hw2) (hts _ hw3) rfl hd hc hs hKn.2.1 (h := mZ M) hR.1 fun H1 kC hkC e1 z1 o1 => ?_
    have hlt := vwCl_lt hcl
    have := kk H1 (hR.new (by rw [z1, hR.1]) (fun q hq => o1 q (by rw [← hR.1]; exact hq)) ⟨fun c' r' t' q1 q2 q3 => ?_, fun t' ty' q1 q2 => ?_, fun q1 => ?_⟩)
    · rw [← hz]; exact this
    · have ec : c' = c := by rw [mK_New, if_pos rfl] at q1; omega
      subst ec
      have er : r' = (C, T, N) := Option.some.inj (q2.symm.trans hcl)
      subst er
      have et : t' = t := Option.some.inj (q3.symm.trans hty)
      subst et
      exact ⟨hR.2.2.1, (u_born t' hts hin hKn hkC e1 hpd).to (fun k hk => by rw [hdf k hk, fV_zero])⟩
    · have := arTy_lt q2; rw [mK_New, if_pos rfl] at q1; omega
    · rw [mK_New, if_pos rfl] at q1; omega) h
theorem mRep.newA {H H' : Heap} (hR : mRep G M H) {t n cs : Nat} {ty : FieldType} (hty : arTy[t]? = some ty) (hn : n < 2147483648) (hdf : defaultValue ty = dV ty) (e1 : H'[mZ M]? = some (arrV (gA G t) n (fun _ => defaultValue ty))) (z1 : H'.size = H.size + 1) (o1 : ∀ q, q < H.size → H'[q]? = H[q]?) : mRep G (mNew M (30 + t) n cs) H' := by
  have hlt := arTy_lt hty
  refine hR.new z1 o1 ⟨fun c' r' t' q1 q2 q3 => ?_, fun t' ty' q1 q2 => ?_, fun q1 => ?_⟩
  · have := vwCl_lt q2; rw [mK_New, if_pos rfl] at q1; omega
  · have et : t' = t := by rw [mK_New, if_pos rfl] at q1; omega
    subst et
    have ey : ty' = ty := Option.some.inj (q2.symm.trans hty)
    subst ey
    refine ⟨hR.2.2.1, by rw [mN_New, if_pos rfl]; exact hn, ?_⟩
    rw [e1, mN_New, if_pos rfl]
    congr 2
    funext j
    rw [fV_zero, hdf]
  · rw [mK_New, if_pos rfl] at q1; omega
theorem wm_newarr (t : Nat) {atype : ArrayType} {ty : FieldType} (hat : newarray.typeOf atype = ty) (hty : arTy[t]? = some ty) (hz : ∀ tA, (zT tA)[t]? = some (tA t, ty)) (hpr : ∀ C, ty ≠ .object C) (hdf : defaultValue ty = dV ty) (hcb : componentBytes ty ≤ 8) (hw : Cond.arrayClass ty ∈ lw_R) {n : Int} (hn : 0 ≤ n ∧ n ≤ 16777216) (hd : decode y.2.1 pc = .ok (.newarray atype, 2)) (h : mWm G y d (pc + 2) L (vr (mZ M) :: st) (mNew M (30 + t) n.toNat n.toNat) Q) : mWm G y d pc L (vi n :: st) M Q :=
  wm_al (fun p e R s m args below meth co H locs cells slots ls Qf hA hR hc hs hL kk => by
    obtain ⟨hx, hb, -, -, -, -, hown, hKK, hts, -⟩ := hA
    have hi3 : i32 n := ⟨by omega, by omega⟩
    have hzz : mcv (vr (mZ M)) = .ref (mZ M) := hR.own hR.2.2.1
    subst hat
    refine va_newaK hx hb (hts _ hw) rfl hd rfl (by rw [i32_lt0 hi3]; omega) (i32_clamp hi3) (Nat.le_trans (Nat.mul_le_mul (Nat.le_refl _) hcb) (by omega)) hc hs (h := mZ M) hR.1 fun H1 cA e1 z1 o1 hAr hNm => ?_
    have e2 := (hKK.2 t _ (hz _)).2
    have e3 : cA = gA G t := by
      generalize newarray.typeOf atype = ty9 at *
      cases ty9 with
      | object C => exact absurd rfl (hpr C)
      | _ => exact Option.some.inj (hNm.symm.trans e2)
    subst e3
    have := kk H1 (hR.newA hty (by omega) hdf e1 (by rw [z1, hR.1]) (fun q hq => o1 q (by rw [← hR.1]; exact hq)))
    rw [← hzz]; exact this) h
theorem wm_anew (t : Nat) {C : String} {idx : Nat} (hty : arTy[t]? = some (.object C)) (hz : ∀ tA, (zT tA)[t]? = some (tA t, .object C)) (hw1 : Cond.classLink y.1.cls idx C ∈ lw_R) (hw2 : Cond.arrayOver (.object C) ∈ lw_R) {n : Int} (hn : 0 ≤ n ∧ n ≤ 16777216) (hd : decode y.2.1 pc = .ok (.anewarray idx, 3)) (h : mWm G y d (pc + 3) L (vr (mZ M) :: st) (mNew M (30 + t) n.toNat n.toNat) Q) : mWm G y d pc L (vi n :: st) M Q :=
  wm_al (fun p e R s m args below meth co H locs cells slots ls Qf hA hR hc hs hL kk => by
    obtain ⟨hx, hb, -, -, -, -, hown, hKK, hts, -⟩ := hA
    have hi3 : i32 n := ⟨by omega, by omega⟩
    have hzz : mcv (vr (mZ M)) = .ref (mZ M) := hR.own hR.2.2.1
    refine W.anew hx hb hown (hts _ hw1) (hts _ hw2) rfl hd rfl (by rw [i32_lt0 hi3]; omega) (by rw [i32_clamp hi3]; omega) hc (by rw [i32_clamp hi3]; exact hs) fun cA kA comp f1 f2 f3 f4 => ?_
    obtain ⟨_, _, _, _, _, e2⟩ := (hKK.2 t _ (hz _)).2
    have e3 : cA = gA G t := Option.some.inj (f1.symm.trans e2)
    subst e3
    rw [i32_clamp hi3, hR.1]
    have := kk (H.push { cls := gA G t, slots := Array.replicate n.toNat .null, vm := .none }) (hR.newA (ty := .object C) hty (by omega) rfl (by rw [← hR.1, Array.getElem?_push_size, arrV_new]; rfl) (by rw [Array.size_push]) (fun q hq => by rw [Array.getElem?_push, if_neg (by omega)]))
    rw [← hzz]; exact this) h
theorem wm_aast {t c a v : Nat} {i : Int} {r : vw_C} (hty : arTy[t]? = some (.object r.1)) (hz : ∀ tA, (zT tA)[t]? = some (tA t, .object r.1)) (hcl : vwCl[c]? = some r) {t9 : Nat → FieldType} (hvt : vwTy[c]? = some t9) (hd : decode y.2.1 pc = .ok (.aastore, 1)) (hK : mK M a = 30 + t) (hi : 0 ≤ i ∧ i < mN M a) (hKv : mK M v = c + 1) (h : mWm G y d (pc + 1) L st (mUR M a i.toNat v) Q) : mWm G y d pc L (vr v :: vi i :: vr a :: st) M Q :=
  wm_wr (M1 := mUR M a i.toNat v) rfl rfl (fun p e R s m args below meth co H locs cells slots ls Qf hA hR hlo hL kk => by
    obtain ⟨g1, g2, g3⟩ := (hR.2.2.2.2.2.2 a).2.1 t _ hK hty
    obtain ⟨hb1, cellV, q1, q2, q3, q4⟩ := (hR.2.2.2.2.2.2 v).1 c _ t9 hKv hcl hvt
    obtain ⟨hx, hb, -, -, -, -, hown, hKK, hts, -⟩ := hA
    have hi3 : i32 i := ⟨by omega, by omega⟩
    show W p (gL G) e R s m args below meth co H locs cells slots Qf (F0 m pc ls (mcv (vr v) :: .int (Int32.ofInt i) :: mcv (vr a) :: st.map mcv))
    rw [hR.own g1, hR.own hb1]
    have hcls := (hKK.1 c r hcl).2
    obtain ⟨kA, comp, k1, k2, k3, -⟩ := (hKK.2 t _ (hz _)).2
    have hcomp : comp = (gD G).1 c := Option.some.inj (k3.symm.trans hcls.1)
    subst hcomp
    have has := va_assign hcls
    obtain ⟨-, kC, hkC, hkind⟩ := hcls
    refine W.aast hx hb g3 (fun q h => by cases h) (fun q => by cases q) k1 k2 rfl hkC ⟨by rw [i32_lt0 hi3]; omega, by rw [i32_clamp hi3, arrV_size]; omega⟩ q1 (fun q h => by rw [q3] at h; cases h) (by rw [q2]; exact hkC) (by rw [q2]; exact has) rfl rfl hd fun H' e1 e2 e3 => ?_
    rw [i32_clamp hi3] at e1
    exact kk H' _ (hR.sto (M' := mUR M a i.toNat v) (ty := .object r.1) (v := .ref v) hty hK e1 e2 e3 rfl rfl rfl hR.2.2.2.1 (fun ty9 b9 k9 q9 => fV_UR ty9 q9) (by show mrv (if _ then _ else _) = _; rw [if_pos ⟨rfl, rfl⟩]; exact hR.own hb1)) (m_own1 hlo g1)) h
/-! ends -/
theorem wm_end {r : Option mV} (hs : ∀ (p : Program) (e : Env) (R : Room) (s : State) (m : MethodId) (args : Array Value) (below : List Frame) (meth : Method) (c : Code) (H : Heap) (locs : List Loc) (cells slots : Nat) (ls : Array Slot), mAt G y d p R s m args meth c → (∀ t : State, t.heap = H → s.WarmedH t.vm → mQ G r M args s (.returned (r.map mcv)) t) → (∀ q ∈ locs, mOwn G q.base) → W p (gL G) e R s m args below meth c H locs cells slots (MQ below (mQ G r M) args s cells slots (mOwn G)) (F0 m pc ls (st.map mcv))) (h : Q r M) : mWm G y d pc L st M Q := by
  refine ⟨r, M, ⟨⟨Nat.le_refl _, Nat.le_refl _⟩, fun p e R s m args below meth c H locs cells slots ls hA hR hl hc hs' hL => ?_⟩, h⟩
  rw [Nat.sub_self, Nat.sub_self]
  exact hs p e R s m args below meth c H locs cells slots ls hA (fun t ht hW => ⟨rfl, by rw [ht]; exact hR⟩) hl
theorem wm_ireturn {x : Int} {ty : FieldType} (hd : decode y.2.1 pc = .ok (.ireturn, 1)) (hr : y.2.2.2 = some ty) (hn : narrow ty (.int (Int32.ofInt x)) = .int (Int32.ofInt x)) (h : Q (some (vi x)) M) : mWm G y d pc L [vi x] M Q :=
  wm_end (r := some (vi x)) (fun p e R s m args below meth c H locs cells slots ls hA hq hl => by
    obtain ⟨hx, hb, -, hret, hlk, -⟩ := hA
    exact W.zret hx hb (hret.trans hr) hn hq hl hd hlk) h
theorem wm_lreturn {x : Int} (hd : decode y.2.1 pc = .ok (.lreturn, 1)) (hr : y.2.2.2 = some .long) (h : Q (some (vl x)) M) : mWm G y d pc L [vl x] M Q :=
  wm_end (r := some (vl x)) (fun p e R s m args below meth c H locs cells slots ls hA hq hl => by
    obtain ⟨hx, hb, -, hret, hlk, -⟩ := hA
    exact W.lret hx hb (hret.trans hr) hq hl hd hlk) h
theorem mrv_or (x : Nat) : mrv x = .null ∨ ∃ a, mrv x = .ref a := by
  by_cases h : x = 0
  · exact Or.inl (if_pos h)
  · exact Or.inr ⟨x, if_neg h⟩
theorem wm_areturn {x : Nat} {rt : FieldType} (hd : decode y.2.1 pc = .ok (.areturn, 1)) (hr : y.2.2.2 = some rt) (hrt : (∃ n, rt = .object n) ∨ ∃ t, rt = .array t) (h : Q (some (vr x)) M) : mWm G y d pc L [vr x] M Q :=
  wm_end (r := some (vr x)) (fun p e R s m args below meth c H locs cells slots ls hA hq hl => by
    obtain ⟨hx, hb, -, hret, hlk, -⟩ := hA
    exact W.aret hx hb (hret.trans hr) hrt (mrv_or x) hq hl hd hlk) h
theorem wm_return (hd : decode y.2.1 pc = .ok (.return_, 1)) (hr : y.2.2.2 = none) (h : Q none M) : mWm G y d pc L [] M Q :=
  wm_end (r := none) (fun p e R s m args below meth c H locs cells slots ls hA hq hl => by
    obtain ⟨hx, hb, -, hret, hlk, -⟩ := hA
    exact W.vret hx hb (hret.trans hr) hq hl hd hlk) h
theorem mEnt_len : ∀ vs : List mV, (lg_sl (vs.map mcv)).length = (mEnt vs).length
  | [] => rfl
  | .inl x :: vs => by
    have := mEnt_len vs
    simp [lg_sl, mEnt] at this ⊢
    rw [← this]
    simp [mcv, Value.category]
    omega
  | .inr (.inl x) :: vs => by
    have := mEnt_len vs
    simp [lg_sl, mEnt] at this ⊢
    rw [← this]
    simp [mcv, Value.category]
    omega
  | .inr (.inr (.inl a)) :: vs => by
    have h1 := mEnt_len vs
    have h2 : (mcv (Sum.inr (Sum.inr (Sum.inl a)))).category = 1 := mcat_mcv _
    simp [lg_sl, mEnt, h2] at h1 ⊢
    rw [← h1]
  | .inr (.inr (.inr u)) :: vs => by
    have h1 := mEnt_len vs
    have h2 : (mcv (Sum.inr (Sum.inr (Sum.inr u)))).category = 1 := mcat_mcv _
    simp [lg_sl, mEnt, h2] at h1 ⊢
    rw [← h1]
/-- a method's contract is opened -/
theorem wm_open {args : List mV} (hp : plainName y.1.cls = true) (hlen : (mEnt args).length ≤ y.2.2.1) (hL : mEnt args ++ List.replicate (y.2.2.1 - (mEnt args).length) vd = L) (h : mWm G y d 0 L [] M Q) : mCm G y d args M Q := by
  obtain ⟨r, M', ⟨h1, h2⟩, h3⟩ := h
  refine ⟨r, M', ⟨h1, ?_⟩, h3⟩
  refine Met.ofW (cc := y.2.1) (maxL := y.2.2.1) (ret := y.2.2.2) hp rfl ?_
  intro p e s m args9 below meth c s₁ B hml hv
  obtain ⟨rfl, hRep, hK, hh, hal⟩ := hv
  have hl := lv_entry (args.map mcv) (n := y.2.2.1) (by rw [mEnt_len]; exact hlen)
  rw [lg_entry_eq]
  generalize (lg_sl (args.map mcv) ++ List.replicate (y.2.2.1 - (lg_sl (args.map mcv)).length) Slot.unset).toArray = ls at hl ⊢
  have hLs : mLs ls y.2.2.1 L := by
    refine ⟨hl.1, hl.2.1, fun i v hi hv => ?_⟩
    rw [← hL] at hi
    by_cases q : i < (mEnt args).length
    · rw [List.getElem?_append_left q] at hi
      have := mEnt_args args 0 i v hi hv
      rw [Nat.zero_add] at this
      exact hl.2.2 _ this
    · rw [List.getElem?_append_right (by omega)] at hi
      have := List.mem_of_getElem? hi
      rw [List.eq_of_mem_replicate this] at hv
      cases hv
  have := h2 p e (headSpec (zW (yC y)) { frames := d, cells := mZ M' - mZ M, slots := mS M' - mS M, locals := 64 * d }).room s m (args.map mcv).toArray below meth c s.heap [] 0 0 ls ⟨B.exec, B.bytes, hml, B.returns, B.notSynchronized, (name_of_methodNamed B.named B.method).1, findClass_of_methodNamed B.named, hK, hh.use _, hh, hal, Nat.le_refl _, Nat.le_refl _⟩ hRep (fun q h => by cases h) (by rw [Nat.zero_add]; exact Nat.le_refl _) (by rw [Nat.zero_add]; exact Nat.le_refl _) hLs
  rw [Nat.zero_add, Nat.zero_add] at this
  exact this
end ARules
end
section
/-! THE FLAT MACHINE'S RULES for calls. -/
theorem mPre_blind {G : mG} {av : List Value} {M : mM} : FrameBlind (va_Pc av (mPre G M)) := fun a U g mk q => by
  obtain ⟨q0, qR, qK, qH, qA⟩ := q
  exact ⟨q0, qR, va_K.moved (u := U) (U := U.calling g mk a) (Vm.Alike.refl U.vm) qK, zH.moved (s := U) (U := U.calling g mk a) (State.WarmedH.refl U) qH, qA.moved (U := U.calling g mk a) (State.WarmedH.refl U)⟩
theorem mPre_at {G : mG} {M : mM} {s U : State} {H : Heap} (hK : va_K (gD G) vwCl (zT (gA G)) s) (hh : zH s) (ha : mAl G s) (hR : mRep G M H) (hU : U.heap = H) (hW : s.WarmedH U.vm) : mPre G M U :=
  ⟨by rw [hU]; exact hR, va_K.moved hW.alike hK, zH.moved hW hh, ha.moved hW⟩
theorem m_opt (r : Option mV) (st : List mV) : (r.map mcv).toList ++ st.map mcv = (r.toList ++ st).map mcv := by cases r <;> rfl
theorem m_cats (st : List mV) : ((st.map mcv).map fun v => v.category).sum = (st.map mcat).sum := by
  rw [List.map_map]
  congr 1
  refine List.map_congr_left (fun v _ => ?_)
  exact mcat_mcv v
section CRules
variable {G : mG} {y y2 : mY} {d pc : Nat} {L st As : List mV} {M : mM} {Q : Option mV → mM → Prop}
/-- a call, whatever its kind: what its run gives goes on -/
theorem wm_run {st0 : List mV} {a0 : Array Value} (hs : ∀ (r : Option mV) (M1 : mM), mCl G y2 d As M r M1 → ∀ (p : Program) (e : Env) (R : Room) (s : State) (m : MethodId) (args : Array Value) (below : List Frame) (meth : Method) (c : Code) (H : Heap) (locs : List Loc) (cells slots : Nat) (ls : Array Slot), mAt G y (d + 1) p R s m args meth c → mRep G M H → mLs ls y.2.2.1 L → cells + (mZ M1 - mZ M) ≤ R.cells ∧ slots + (mS M1 - mS M) ≤ R.slots → va_Run p (gL G) e R s m args below meth c H locs cells slots (mZ M1 - mZ M) (mS M1 - mS M) (F0 m pc ls (st0.map mcv)) (st.map mcv) (mQ G r M1 a0) (mOwn G))
    (h : mCm G y2 d As M (fun r M1 => mWm G y (d + 1) (pc + 3) L (r.toList ++ st) M1 Q)) : mWm G y (d + 1) pc L st0 M Q := by
  obtain ⟨r, M1, hC, r2, M2, ⟨⟨z1, z2⟩, hE⟩, hQ⟩ := h
  have hz := hC.1
  refine ⟨r2, M2, ⟨⟨by omega, by omega⟩, fun p e R s m args below meth c H locs cells slots ls hA hR hl hc hs' hL => ?_⟩, hQ⟩
  intro T hT X
  obtain ⟨v, s9, t, T', L', h0, X', hL', e1, e2, ⟨hv, hrep⟩, go⟩ := hs r M1 hC p e R s m args below meth c H locs cells slots ls hA hR hL ⟨by omega, by omega⟩ T hT X
  have hv' : v = r.map mcv := Outcome.returned.inj hv
  subst hv'
  obtain ⟨t2, a1, b1⟩ := hE p e R s m args below meth c T'.heap (locs ++ L') (cells + (mZ M1 - mZ M)) (slots + (mS M1 - mS M)) ls hA (by rw [e1]; exact hrep) (t_lL hl hL') (by omega) (by omega) hL T' rfl X'
  rw [← m_opt] at a1
  refine ⟨t2, go t2 a1, ?_⟩
  rw [show cells + (mZ M2 - mZ M) = cells + (mZ M1 - mZ M) + (mZ M2 - mZ M1) by first | rfl | omega, show slots + (mS M2 - mS M) = slots + (mS M1 - mS M) + (mS M2 - mS M1) by first | rfl | omega]
  exact b1
theorem m_room {R : Room} {d n : Nat} (hd : d + 1 ≤ R.frames) (hl : 64 * (d + 1) ≤ R.locals) (hn : n ≤ 45) : d + 1 ≤ R.frames ∧ 8 + (n + 11) + 64 * d ≤ R.locals := ⟨hd, by omega⟩
theorem wm_callV {c b idx n : Nat} {r0 : vw_C} {t9 : Nat → FieldType} {st0 : List mV} (hcl : vwCl[c]? = some r0) (hty : vwTy[c]? = some t9) (hr0 : r0.1 = y2.1.cls) (h1 : Cond.methodLink y.1.cls idx y2.1 ∈ lw_R) (h2 : Cond.instanceMethod y2.1 ∈ lw_R) (h3 : Cond.selects y2.1.cls y2.1 y2.1 ∈ lw_R) (h4 : Cond.initialized y2.1.cls ∈ lw_R) (h5 : yC y2 ∈ lw_R) (hd2 : y2.1.cls ≠ "java/lang/invoke/MethodHandle" ∧ y2.1.cls ≠ "java/lang/invoke/VarHandle" ∧ (parseMethodDescriptor y2.1.desc).map (fun d => d.parameters.length) = some n) (hnL : y2.2.2.1 ≤ 45) (hn : As.length = n) (hst : st0 = As.reverse ++ vr b :: st) (hW : (st.map mcat).sum ≤ 8) (hd : decode y.2.1 pc = .ok (.invokevirtual idx, 3)) (hK : mK M b = c + 1)
    (h : mCm G y2 d (vr b :: As) M (fun r M1 => mWm G y (d + 1) (pc + 3) L (r.toList ++ st) M1 Q)) : mWm G y (d + 1) pc L st0 M Q :=
  wm_run (a0 := (Value.ref b :: As.map mcv).toArray) (fun r M1 hC p e R s m args below meth c9 H locs cells slots ls hA hR hL hf => by
    subst hst
    obtain ⟨hx, hb, hml, -, -, -, hown, hKK, hts, hh, hal, hfr, hlo⟩ := hA
    obtain ⟨hb1, cell, q1, q2, q3, q4⟩ := (hR.2.2.2.2.2.2 b).1 c _ t9 hK hcl hty
    have hbv : mcv (vr b) = .ref b := hR.own hb1
    have hM := hC.2
    rw [List.map_cons, hbv] at hM
    refine va_runV ⟨hx, hb, hml, hown, hts⟩ hM (C := y2.1.cls) (n := n) ⟨callB_of n hts (zGood h5 rfl) rfl rfl rfl (hts _ h4) (hts _ h1) hd2 (m_room hfr hlo hnL), hts _ h2, hts _ h3⟩ ⟨mPre_blind, ⟨cell, q1, by rw [q3]; rfl, by rw [q2, ← hr0]; exact (hKK.1 c _ hcl).2.1⟩, fun U hU hW9 => ⟨rfl, mPre_at hKK hh hal hR hU hW9⟩⟩ rfl (by rw [List.length_map]; exact hn) hL.1 ?_ (by rw [m_cats]; show 2 * 0 + _ ≤ 8; omega) hd hf
    show (As.reverse ++ vr b :: st).map mcv = _
    rw [List.map_append, List.map_cons, hbv, List.map_reverse]) h
theorem wm_callS {idx n : Nat} {st0 : List mV} (h1 : Cond.methodLink y.1.cls idx y2.1 ∈ lw_R) (h2 : Cond.static y2.1 ∈ lw_R) (h4 : Cond.initialized y2.1.cls ∈ lw_R) (h5 : yC y2 ∈ lw_R) (hd2 : y2.1.cls ≠ "java/lang/invoke/MethodHandle" ∧ y2.1.cls ≠ "java/lang/invoke/VarHandle" ∧ (parseMethodDescriptor y2.1.desc).map (fun d => d.parameters.length) = some n) (hnL : y2.2.2.1 ≤ 45) (hn : As.length = n) (hst : st0 = As.reverse ++ st) (hW : (st.map mcat).sum ≤ 8) (hd : decode y.2.1 pc = .ok (.invokestatic idx, 3))
    (h : mCm G y2 d As M (fun r M1 => mWm G y (d + 1) (pc + 3) L (r.toList ++ st) M1 Q)) : mWm G y (d + 1) pc L st0 M Q :=
  wm_run (a0 := (As.map mcv).toArray) (fun r M1 hC p e R s m args below meth c9 H locs cells slots ls hA hR hL hf => by
    subst hst
    obtain ⟨hx, hb, hml, -, -, -, hown, hKK, hts, hh, hal, hfr, hlo⟩ := hA
    refine va_runS ⟨hx, hb, hml, hown, hts⟩ hC.2 (n := n) ⟨callB_of n hts (zGood h5 rfl) rfl rfl rfl (hts _ h4) (hts _ h1) hd2 (m_room hfr hlo hnL), hts _ h2⟩ ⟨mPre_blind, fun U hU hW9 => ⟨rfl, mPre_at hKK hh hal hR hU hW9⟩⟩ rfl (by rw [List.length_map]; exact hn) hL.1 ?_ (by rw [m_cats]; show 2 * 0 + _ ≤ 8; omega) hd hf
    show (As.reverse ++ st).map mcv = _
    rw [List.map_append, List.map_reverse]) h
theorem wm_callI {c b idx n : Nat} {r0 : vw_C} {t9 : Nat → FieldType} {st0 : List mV} (hcl : vwCl[c]? = some r0) (hty : vwTy[c]? = some t9) (h1 : Cond.methodLink y.1.cls idx y2.1 ∈ lw_R) (h2 : Cond.instanceMethod y2.1 ∈ lw_R) (hini : y2.1.name = "<init>") (hret : y2.2.2.2 = none) (h4 : Cond.initialized y2.1.cls ∈ lw_R) (h5 : yC y2 ∈ lw_R) (hd2 : y2.1.cls ≠ "java/lang/invoke/MethodHandle" ∧ y2.1.cls ≠ "java/lang/invoke/VarHandle" ∧ (parseMethodDescriptor y2.1.desc).map (fun d => d.parameters.length) = some n) (hnL : y2.2.2.1 ≤ 45) (hn : As.length = n) (hst : st0 = As.reverse ++ vr b :: st) (hW : (st.map mcat).sum ≤ 8) (hd : decode y.2.1 pc = .ok (.invokespecial idx, 3)) (hK : mK M b = c + 1)
    (h : mCm G y2 d (vr b :: As) M (fun r M1 => mWm G y (d + 1) (pc + 3) L (r.toList ++ st) M1 Q)) : mWm G y (d + 1) pc L st0 M Q :=
  wm_run (a0 := (Value.ref b :: As.map mcv).toArray) (fun r M1 hC p e R s m args below meth c9 H locs cells slots ls hA hR hL hf => by
    subst hst
    obtain ⟨hx, hb, hml, -, -, -, hown, hKK, hts, hh, hal, hfr, hlo⟩ := hA
    obtain ⟨hb1, cell, q1, q2, q3, q4⟩ := (hR.2.2.2.2.2.2 b).1 c _ t9 hK hcl hty
    have hbv : mcv (vr b) = .ref b := hR.own hb1
    have hM := hC.2
    rw [List.map_cons, hbv] at hM
    have hcb := callB_of n hts (zGood h5 rfl) (rfl : zW (yC y2) = _ :: []) (rm := { frames := d, cells := mZ M1 - mZ M, slots := mS M1 - mS M, locals := 64 * d }) rfl rfl (hts _ h4) (hts _ h1) hd2 (m_room hfr hlo hnL)
    rw [hret] at hcb
    refine va_runI ⟨hx, hb, hml, hown, hts⟩ hM (n := n) ⟨hcb, hini, hts _ h2⟩ ⟨mPre_blind, fun U hU hW9 => ⟨rfl, mPre_at hKK hh hal hR hU hW9⟩⟩ rfl (by rw [List.length_map]; exact hn) hL.1 ?_ (by rw [m_cats]; show 2 * 0 + _ ≤ 8; omega) hd hf
    show (As.reverse ++ vr b :: st).map mcv = _
    rw [List.map_append, List.map_cons, hbv, List.map_reverse]) h
theorem wm_callIN {c b idx n : Nat} {host : String} {r0 : vw_C} {t9 : Nat → FieldType} {st0 : List mV} (hcl : vwCl[c]? = some r0) (hty : vwTy[c]? = some t9) (h1 : Cond.methodLinkNest y.1.cls idx y2.1 host ∈ lw_R) (h2 : Cond.instanceMethod y2.1 ∈ lw_R) (hini : y2.1.name = "<init>") (hret : y2.2.2.2 = none) (h4 : Cond.initialized y2.1.cls ∈ lw_R) (h5 : yC y2 ∈ lw_R) (hd2 : y2.1.cls ≠ "java/lang/invoke/MethodHandle" ∧ y2.1.cls ≠ "java/lang/invoke/VarHandle" ∧ (parseMethodDescriptor y2.1.desc).map (fun d => d.parameters.length) = some n) (hnL : y2.2.2.1 ≤ 45) (hn : As.length = n) (hst : st0 = As.reverse ++ vr b :: st) (hW : (st.map mcat).sum ≤ 8) (hd : decode y.2.1 pc = .ok (.invokespecial idx, 3)) (hK : mK M b = c + 1)
    (h : mCm G y2 d (vr b :: As) M (fun r M1 => mWm G y (d + 1) (pc + 3) L (r.toList ++ st) M1 Q)) : mWm G y (d + 1) pc L st0 M Q :=
  wm_run (a0 := (Value.ref b :: As.map mcv).toArray) (fun r M1 hC p e R s m args below meth c9 H locs cells slots ls hA hR hL hf => by
    subst hst
    obtain ⟨hx, hb, hml, -, -, -, hown, hKK, hts, hh, hal, hfr, hlo⟩ := hA
    obtain ⟨hb1, cell, q1, q2, q3, q4⟩ := (hR.2.2.2.2.2.2 b).1 c _ t9 hK hcl hty
    have hbv : mcv (vr b) = .ref b := hR.own hb1
    have hM := hC.2
    rw [List.map_cons, hbv] at hM
    have hcb := va_cnB n hts (zGood h5 rfl) (rfl : zW (yC y2) = _ :: []) (rm := { frames := d, cells := mZ M1 - mZ M, slots := mS M1 - mS M, locals := 64 * d }) rfl rfl (va_Nw.of rfl (hts _ h1)) (hts _ h4) hd2 (m_room hfr hlo hnL)
    rw [hret] at hcb
    refine va_runIN ⟨hx, hb, hml, hown, hts⟩ hM (n := n) ⟨hcb, hini, hts _ h2⟩ ⟨mPre_blind, fun U hU hW9 => ⟨rfl, mPre_at hKK hh hal hR hU hW9⟩⟩ rfl (by rw [List.length_map]; exact hn) hL.1 ?_ (by rw [m_cats]; show 2 * 0 + _ ≤ 8; omega) hd hf
    show (As.reverse ++ vr b :: st).map mcv = _
    rw [List.map_append, List.map_cons, hbv, List.map_reverse]) h
theorem wm_objInit {b idx : Nat} (hown9 : True) (h1 : Cond.methodLink y.1.cls idx Lib.objectInit ∈ lw_R) (h2 : Cond.instanceMethod Lib.objectInit ∈ lw_R) (h5 : Cond.code Lib.objectInit ⟨#[0xb1]⟩ 1 none ∈ lw_R) (hW : (st.map mcat).sum ≤ 8) (hd : decode y.2.1 pc = .ok (.invokespecial idx, 3)) (hb0 : 0 < b) (h : mWm G y (d + 1) (pc + 3) L st M Q) : mWm G y (d + 1) pc L (vr b :: st) M Q :=
  wm_st (fun p e R s m args below meth co H locs cells slots ls Qf hA hR hL kk => by
    obtain ⟨hx, hb, hml, -, -, -, hown, hKK, hts, hh, hal, hfr, hlo⟩ := hA
    show W p (gL G) e R s m args below meth co H locs cells slots Qf (F0 m pc ls (mcv (vr b) :: st.map mcv))
    rw [show mcv (vr b) = .ref b from if_neg (by omega)]
    exact W.objInit hx hb hown (hts _ h1) (hts _ h2) (hts _ h5) rfl (by rw [hml]; exact hL.1) rfl hd (by omega) (by rw [m_cats]; show 2 * 0 + _ + 12 ≤ _; omega) kk) h
end CRules
/-! what is asked of a call, by the kind of its answer -/
def Ci (G : mG) (y : mY) (d : Nat) (args : List mV) (M : mM) (Q : Int → mM → Prop) : Prop := mCm G y d args M (fun r M1 => ∃ x, r = some (vi x) ∧ Q x M1)
def Cj (G : mG) (y : mY) (d : Nat) (args : List mV) (M : mM) (Q : Int → mM → Prop) : Prop := mCm G y d args M (fun r M1 => ∃ x, r = some (vl x) ∧ Q x M1)
def Cr (G : mG) (y : mY) (d : Nat) (args : List mV) (M : mM) (Q : Nat → mM → Prop) : Prop := mCm G y d args M (fun r M1 => ∃ x, r = some (vr x) ∧ Q x M1)
def Cv (G : mG) (y : mY) (d : Nat) (args : List mV) (M : mM) (Q : mM → Prop) : Prop := mCm G y d args M (fun r M1 => r = none ∧ Q M1)
section CK
variable {G : mG} {y : mY} {d : Nat} {args : List mV} {M : mM}
theorem Ci.mono {Q Q' : Int → mM → Prop} (h : Ci G y d args M Q) (hq : ∀ x M', Q x M' → Q' x M') : Ci G y d args M Q' := mCm.mono h (fun r M' q => by obtain ⟨x, e, q⟩ := q; exact ⟨x, e, hq x M' q⟩)
theorem Cj.mono {Q Q' : Int → mM → Prop} (h : Cj G y d args M Q) (hq : ∀ x M', Q x M' → Q' x M') : Cj G y d args M Q' := mCm.mono h (fun r M' q => by obtain ⟨x, e, q⟩ := q; exact ⟨x, e, hq x M' q⟩)
theorem Cr.mono {Q Q' : Nat → mM → Prop} (h : Cr G y d args M Q) (hq : ∀ x M', Q x M' → Q' x M') : Cr G y d args M Q' := mCm.mono h (fun r M' q => by obtain ⟨x, e, q⟩ := q; exact ⟨x, e, hq x M' q⟩)
theorem Cv.mono {Q Q' : mM → Prop} (h : Cv G y d args M Q) (hq : ∀ M', Q M' → Q' M') : Cv G y d args M Q' := mCm.mono h (fun r M' q => by obtain ⟨e, q⟩ := q; exact ⟨e, hq M' q⟩)
end CK
end
section
theorem k1_1 : (Jvm.Cond.initialized "ChanceArena") ∈ lw_R := zR (zk_1 _ (List.mem_of_getElem? (i := 1) rfl)) rfl
theorem k1_2 : (Jvm.Cond.initialized "ChanceArena$Words") ∈ lw_R := zR (zk_1 _ (List.mem_of_getElem? (i := 2) rfl)) rfl
theorem k1_3 : (Jvm.Cond.initialized "ChanceArena$TextReader") ∈ lw_R := zR (zk_1 _ (List.mem_of_getElem? (i := 3) rfl)) rfl
theorem k1_4 : (Jvm.Cond.initialized "ChanceArena$RuleReader") ∈ lw_R := zR (zk_1 _ (List.mem_of_getElem? (i := 4) rfl)) rfl
theorem k1_5 : (Jvm.Cond.initialized "ChanceArena$Machine") ∈ lw_R := zR (zk_1 _ (List.mem_of_getElem? (i := 5) rfl)) rfl
theorem k1_6 : (Jvm.Cond.initialized "ChanceArena$Program") ∈ lw_R := zR (zk_1 _ (List.mem_of_getElem? (i := 6) rfl)) rfl
theorem k1_7 : (Jvm.Cond.initialized "ChanceArena$Game") ∈ lw_R := zR (zk_1 _ (List.mem_of_getElem? (i := 7) rfl)) rfl
theorem k1_8 : (Jvm.Cond.initialized "ChanceArena$Solver") ∈ lw_R := zR (zk_1 _ (List.mem_of_getElem? (i := 8) rfl)) rfl
theorem k1_9 : (Jvm.Cond.initialized "ChanceArena$Scales") ∈ lw_R := zR (zk_1 _ (List.mem_of_getElem? (i := 9) rfl)) rfl
theorem k1_10 : (Jvm.Cond.initialized "ChanceArena$Natural") ∈ lw_R := zR (zk_1 _ (List.mem_of_getElem? (i := 10) rfl)) rfl
theorem k1_11 : (Jvm.Cond.initialized "ChanceArena$Fraction") ∈ lw_R := zR (zk_1 _ (List.mem_of_getElem? (i := 11) rfl)) rfl
theorem k1_12 : (Jvm.Cond.initialized "ChanceArena$Residues") ∈ lw_R := zR (zk_1 _ (List.mem_of_getElem? (i := 12) rfl)) rfl
theorem k1_13 : (Jvm.Cond.initialized "ChanceArena$Fractions") ∈ lw_R := zR (zk_1 _ (List.mem_of_getElem? (i := 13) rfl)) rfl
theorem k1_14 : (Jvm.Cond.initialized "ChanceArenaModel") ∈ lw_R := zR (zk_1 _ (List.mem_of_getElem? (i := 14) rfl)) rfl
theorem k1_15 : (Jvm.Cond.initialized "ChanceArenaModel$Numbers") ∈ lw_R := zR (zk_1 _ (List.mem_of_getElem? (i := 15) rfl)) rfl
theorem k1_16 : (Jvm.Cond.initialized "ChanceArenaModel$Game") ∈ lw_R := zR (zk_1 _ (List.mem_of_getElem? (i := 16) rfl)) rfl
theorem k1_17 : (Jvm.Cond.initialized "ChanceArenaModel$Solver") ∈ lw_R := zR (zk_1 _ (List.mem_of_getElem? (i := 17) rfl)) rfl
theorem k1_18 : (Jvm.Cond.initialized "ChanceArenaModel$Sums") ∈ lw_R := zR (zk_1 _ (List.mem_of_getElem? (i := 18) rfl)) rfl
theorem k1_19 : (Jvm.Cond.initialized "ChanceArenaModel$Fraction") ∈ lw_R := zR (zk_1 _ (List.mem_of_getElem? (i := 19) rfl)) rfl
theorem k1_20 : (Jvm.Cond.initialized "ChanceArenaModel$Whole") ∈ lw_R := zR (zk_1 _ (List.mem_of_getElem? (i := 20) rfl)) rfl
theorem k1_21 : (Jvm.Cond.initialized "java/lang/System") ∈ lw_R := zR (zk_1 _ (List.mem_of_getElem? (i := 21) rfl)) rfl
theorem k1_30 : (Jvm.Cond.initialized "java/lang/Math") ∈ lw_R := zR (zk_1 _ (List.mem_of_getElem? (i := 30) rfl)) rfl
theorem k1_31 : (Jvm.Cond.initialized "java/util/Arrays") ∈ lw_R := zR (zk_1 _ (List.mem_of_getElem? (i := 31) rfl)) rfl
theorem k1_32 : (Jvm.Cond.initialized "java/lang/Long") ∈ lw_R := zR (zk_1 _ (List.mem_of_getElem? (i := 32) rfl)) rfl
theorem k1_35 : (Jvm.Cond.initialized "java/lang/Integer") ∈ lw_R := zR (zk_1 _ (List.mem_of_getElem? (i := 35) rfl)) rfl
theorem k1_45 : (Jvm.Cond.methodLink "ChanceArena" (1 : Nat) ({ cls := "java/lang/Object", name := "<init>", desc := "()V" } : Jvm.MethodName)) ∈ lw_R := zR (zk_1 _ (List.mem_of_getElem? (i := 45) rfl)) rfl
theorem k1_46 : (Jvm.Cond.instanceMethod ({ cls := "java/lang/Object", name := "<init>", desc := "()V" } : Jvm.MethodName)) ∈ lw_R := zR (zk_1 _ (List.mem_of_getElem? (i := 46) rfl)) rfl
theorem k1_47 : (Jvm.Cond.code ({ cls := "java/lang/Object", name := "<init>", desc := "()V" } : Jvm.MethodName) object_method_1_code (1 : Nat) (Option.none : Option Jvm.ClassFile.FieldType)) ∈ lw_R := zR (zk_1 _ (List.mem_of_getElem? (i := 47) rfl)) rfl
theorem k1_48 : (Jvm.Cond.classLink "ChanceArena" (17 : Nat) "ChanceArena$Words") ∈ lw_R := zR (zk_1 _ (List.mem_of_getElem? (i := 48) rfl)) rfl
theorem k1_49 : (Jvm.Cond.instantiable "ChanceArena$Words" (6 : Nat)) ∈ lw_R := zR (zk_1 _ (List.mem_of_getElem? (i := 49) rfl)) rfl
theorem k1_50 : (Jvm.Cond.methodLinkNest "ChanceArena" (19 : Nat) ({ cls := "ChanceArena$Words", name := "<init>", desc := "()V" } : Jvm.MethodName) "ChanceArena") ∈ lw_R := zR (zk_1 _ (List.mem_of_getElem? (i := 50) rfl)) rfl
theorem k1_51 : (Jvm.Cond.instanceMethod ({ cls := "ChanceArena$Words", name := "<init>", desc := "()V" } : Jvm.MethodName)) ∈ lw_R := zR (zk_1 _ (List.mem_of_getElem? (i := 51) rfl)) rfl
theorem k1_52 : (Jvm.Cond.code ({ cls := "ChanceArena$Words", name := "<init>", desc := "()V" } : Jvm.MethodName) prog_13_method_1_code (1 : Nat) (Option.none : Option Jvm.ClassFile.FieldType)) ∈ lw_R := zR (zk_1 _ (List.mem_of_getElem? (i := 52) rfl)) rfl
theorem k1_53 : (Jvm.Cond.methodLink "ChanceArena$Words" (3 : Nat) ({ cls := "java/lang/Object", name := "<init>", desc := "()V" } : Jvm.MethodName)) ∈ lw_R := zR (zk_1 _ (List.mem_of_getElem? (i := 53) rfl)) rfl
theorem k1_54 : (Jvm.Cond.fieldLink "ChanceArena$Words" (9 : Nat) "ChanceArena$Words" "tape" "[C") ∈ lw_R := zR (zk_1 _ (List.mem_of_getElem? (i := 54) rfl)) rfl
theorem k1_55 : (Jvm.Cond.fieldLink "ChanceArena$Words" (25 : Nat) "ChanceArena$Words" "length" "I") ∈ lw_R := zR (zk_1 _ (List.mem_of_getElem? (i := 55) rfl)) rfl
theorem k1_56 : (Jvm.Cond.fieldLink "ChanceArena$TextReader" (92 : Nat) "ChanceArena$Words" "length" "I") ∈ lw_R := zR (zk_1 _ (List.mem_of_getElem? (i := 56) rfl)) rfl
theorem k1_57 : (Jvm.Cond.fieldLink "ChanceArena$Words" (29 : Nat) "ChanceArena$Words" "count" "I") ∈ lw_R := zR (zk_1 _ (List.mem_of_getElem? (i := 57) rfl)) rfl
theorem k1_58 : (Jvm.Cond.fieldLink "ChanceArena$TextReader" (40 : Nat) "ChanceArena$Words" "count" "I") ∈ lw_R := zR (zk_1 _ (List.mem_of_getElem? (i := 58) rfl)) rfl
theorem k1_59 : (Jvm.Cond.fieldLink "ChanceArena$RuleReader" (97 : Nat) "ChanceArena$Words" "count" "I") ∈ lw_R := zR (zk_1 _ (List.mem_of_getElem? (i := 59) rfl)) rfl
theorem k1_60 : (Jvm.Cond.fieldLink "ChanceArena$Words" (15 : Nat) "ChanceArena$Words" "sorts" "[I") ∈ lw_R := zR (zk_1 _ (List.mem_of_getElem? (i := 60) rfl)) rfl
theorem k1_61 : (Jvm.Cond.fieldLink "ChanceArena$TextReader" (56 : Nat) "ChanceArena$Words" "sorts" "[I") ∈ lw_R := zR (zk_1 _ (List.mem_of_getElem? (i := 61) rfl)) rfl
theorem k1_62 : (Jvm.Cond.fieldLink "ChanceArena$RuleReader" (69 : Nat) "ChanceArena$Words" "sorts" "[I") ∈ lw_R := zR (zk_1 _ (List.mem_of_getElem? (i := 62) rfl)) rfl
theorem k1_63 : (Jvm.Cond.fieldLink "ChanceArena$Words" (19 : Nat) "ChanceArena$Words" "starts" "[I") ∈ lw_R := zR (zk_1 _ (List.mem_of_getElem? (i := 63) rfl)) rfl
theorem k1_64 : (Jvm.Cond.fieldLink "ChanceArena$RuleReader" (64 : Nat) "ChanceArena$Words" "starts" "[I") ∈ lw_R := zR (zk_1 _ (List.mem_of_getElem? (i := 64) rfl)) rfl
theorem k1_65 : (Jvm.Cond.fieldLink "ChanceArena$TextReader" (113 : Nat) "ChanceArena$Words" "starts" "[I") ∈ lw_R := zR (zk_1 _ (List.mem_of_getElem? (i := 65) rfl)) rfl
theorem k1_66 : (Jvm.Cond.fieldLink "ChanceArena$Words" (22 : Nat) "ChanceArena$Words" "amounts" "[I") ∈ lw_R := zR (zk_1 _ (List.mem_of_getElem? (i := 66) rfl)) rfl
theorem k1_67 : (Jvm.Cond.fieldLink "ChanceArena$RuleReader" (72 : Nat) "ChanceArena$Words" "amounts" "[I") ∈ lw_R := zR (zk_1 _ (List.mem_of_getElem? (i := 67) rfl)) rfl
theorem k1_81 : (Jvm.Cond.arrayClass Jvm.ClassFile.FieldType.char) ∈ lw_R := zR (zk_1 _ (List.mem_of_getElem? (i := 81) rfl)) rfl
theorem k1_82 : (Jvm.Cond.arrayClass Jvm.ClassFile.FieldType.int) ∈ lw_R := zR (zk_1 _ (List.mem_of_getElem? (i := 82) rfl)) rfl
theorem k1_83 : (Jvm.Cond.classLink "ChanceArena" (24 : Nat) "ChanceArena$TextReader") ∈ lw_R := zR (zk_1 _ (List.mem_of_getElem? (i := 83) rfl)) rfl
theorem k1_84 : (Jvm.Cond.instantiable "ChanceArena$TextReader" (9 : Nat)) ∈ lw_R := zR (zk_1 _ (List.mem_of_getElem? (i := 84) rfl)) rfl
theorem k1_85 : (Jvm.Cond.methodLinkNest "ChanceArena" (26 : Nat) ({ cls := "ChanceArena$TextReader", name := "<init>", desc := "()V" } : Jvm.MethodName) "ChanceArena") ∈ lw_R := zR (zk_1 _ (List.mem_of_getElem? (i := 85) rfl)) rfl
theorem k1_86 : (Jvm.Cond.instanceMethod ({ cls := "ChanceArena$TextReader", name := "<init>", desc := "()V" } : Jvm.MethodName)) ∈ lw_R := zR (zk_1 _ (List.mem_of_getElem? (i := 86) rfl)) rfl
theorem k1_87 : (Jvm.Cond.code ({ cls := "ChanceArena$TextReader", name := "<init>", desc := "()V" } : Jvm.MethodName) prog_12_method_1_code (1 : Nat) (Option.none : Option Jvm.ClassFile.FieldType)) ∈ lw_R := zR (zk_1 _ (List.mem_of_getElem? (i := 87) rfl)) rfl
theorem k1_88 : (Jvm.Cond.methodLink "ChanceArena$TextReader" (3 : Nat) ({ cls := "java/lang/Object", name := "<init>", desc := "()V" } : Jvm.MethodName)) ∈ lw_R := zR (zk_1 _ (List.mem_of_getElem? (i := 88) rfl)) rfl
theorem k1_89 : (Jvm.Cond.classLink "ChanceArena$TextReader" (9 : Nat) "ChanceArena$RuleReader") ∈ lw_R := zR (zk_1 _ (List.mem_of_getElem? (i := 89) rfl)) rfl
theorem k1_90 : (Jvm.Cond.instantiable "ChanceArena$RuleReader" (20 : Nat)) ∈ lw_R := zR (zk_1 _ (List.mem_of_getElem? (i := 90) rfl)) rfl
theorem k1_91 : (Jvm.Cond.methodLinkNest "ChanceArena$TextReader" (11 : Nat) ({ cls := "ChanceArena$RuleReader", name := "<init>", desc := "()V" } : Jvm.MethodName) "ChanceArena") ∈ lw_R := zR (zk_1 _ (List.mem_of_getElem? (i := 91) rfl)) rfl
theorem k1_92 : (Jvm.Cond.instanceMethod ({ cls := "ChanceArena$RuleReader", name := "<init>", desc := "()V" } : Jvm.MethodName)) ∈ lw_R := zR (zk_1 _ (List.mem_of_getElem? (i := 92) rfl)) rfl
theorem k1_93 : (Jvm.Cond.code ({ cls := "ChanceArena$RuleReader", name := "<init>", desc := "()V" } : Jvm.MethodName) prog_9_method_1_code (1 : Nat) (Option.none : Option Jvm.ClassFile.FieldType)) ∈ lw_R := zR (zk_1 _ (List.mem_of_getElem? (i := 93) rfl)) rfl
theorem k1_94 : (Jvm.Cond.methodLink "ChanceArena$RuleReader" (3 : Nat) ({ cls := "java/lang/Object", name := "<init>", desc := "()V" } : Jvm.MethodName)) ∈ lw_R := zR (zk_1 _ (List.mem_of_getElem? (i := 94) rfl)) rfl
theorem k1_95 : (Jvm.Cond.fieldLink "ChanceArena$RuleReader" (40 : Nat) "ChanceArena$RuleReader" "words" "LChanceArena$Words;") ∈ lw_R := zR (zk_1 _ (List.mem_of_getElem? (i := 95) rfl)) rfl
theorem k1_96 : (Jvm.Cond.fieldLink "ChanceArena$TextReader" (109 : Nat) "ChanceArena$RuleReader" "words" "LChanceArena$Words;") ∈ lw_R := zR (zk_1 _ (List.mem_of_getElem? (i := 96) rfl)) rfl
theorem k1_97 : (Jvm.Cond.fieldLink "ChanceArena$RuleReader" (44 : Nat) "ChanceArena$RuleReader" "text" "LChanceArena$Program;") ∈ lw_R := zR (zk_1 _ (List.mem_of_getElem? (i := 97) rfl)) rfl
theorem k1_98 : (Jvm.Cond.fieldLink "ChanceArena$RuleReader" (48 : Nat) "ChanceArena$RuleReader" "at" "I") ∈ lw_R := zR (zk_1 _ (List.mem_of_getElem? (i := 98) rfl)) rfl
theorem k1_99 : (Jvm.Cond.fieldLink "ChanceArena$TextReader" (59 : Nat) "ChanceArena$RuleReader" "at" "I") ∈ lw_R := zR (zk_1 _ (List.mem_of_getElem? (i := 99) rfl)) rfl
theorem k1_100 : (Jvm.Cond.fieldLink "ChanceArena$RuleReader" (52 : Nat) "ChanceArena$RuleReader" "fault" "I") ∈ lw_R := zR (zk_1 _ (List.mem_of_getElem? (i := 100) rfl)) rfl
theorem k1_101 : (Jvm.Cond.fieldLink "ChanceArena$TextReader" (76 : Nat) "ChanceArena$RuleReader" "fault" "I") ∈ lw_R := zR (zk_1 _ (List.mem_of_getElem? (i := 101) rfl)) rfl
theorem k1_102 : (Jvm.Cond.fieldLink "ChanceArena$TextReader" (32 : Nat) "ChanceArena$RuleReader" "place" "I") ∈ lw_R := zR (zk_1 _ (List.mem_of_getElem? (i := 102) rfl)) rfl
theorem k1_103 : (Jvm.Cond.fieldLink "ChanceArena$RuleReader" (55 : Nat) "ChanceArena$RuleReader" "place" "I") ∈ lw_R := zR (zk_1 _ (List.mem_of_getElem? (i := 103) rfl)) rfl
theorem k1_104 : (Jvm.Cond.fieldLink "ChanceArena$RuleReader" (58 : Nat) "ChanceArena$RuleReader" "depth" "I") ∈ lw_R := zR (zk_1 _ (List.mem_of_getElem? (i := 104) rfl)) rfl
theorem k1_105 : (Jvm.Cond.fieldLink "ChanceArena$TextReader" (222 : Nat) "ChanceArena$RuleReader" "depth" "I") ∈ lw_R := zR (zk_1 _ (List.mem_of_getElem? (i := 105) rfl)) rfl
theorem k1_106 : (Jvm.Cond.fieldLink "ChanceArena$TextReader" (125 : Nat) "ChanceArena$RuleReader" "constsOnly" "Z") ∈ lw_R := zR (zk_1 _ (List.mem_of_getElem? (i := 106) rfl)) rfl
theorem k1_107 : (Jvm.Cond.fieldLink "ChanceArena$RuleReader" (122 : Nat) "ChanceArena$RuleReader" "constsOnly" "Z") ∈ lw_R := zR (zk_1 _ (List.mem_of_getElem? (i := 107) rfl)) rfl
theorem k1_108 : (Jvm.Cond.fieldLink "ChanceArena$RuleReader" (93 : Nat) "ChanceArena$RuleReader" "operandWanted" "Z") ∈ lw_R := zR (zk_1 _ (List.mem_of_getElem? (i := 108) rfl)) rfl
theorem k1_109 : (Jvm.Cond.fieldLink "ChanceArena$RuleReader" (11 : Nat) "ChanceArena$RuleReader" "open" "[I") ∈ lw_R := zR (zk_1 _ (List.mem_of_getElem? (i := 109) rfl)) rfl
theorem k1_110 : (Jvm.Cond.fieldLink "ChanceArena$RuleReader" (15 : Nat) "ChanceArena$RuleReader" "openPlace" "[I") ∈ lw_R := zR (zk_1 _ (List.mem_of_getElem? (i := 110) rfl)) rfl
theorem k1_111 : (Jvm.Cond.fieldLink "ChanceArena$RuleReader" (18 : Nat) "ChanceArena$RuleReader" "openOrder" "[I") ∈ lw_R := zR (zk_1 _ (List.mem_of_getElem? (i := 111) rfl)) rfl
theorem k1_112 : (Jvm.Cond.fieldLink "ChanceArena$RuleReader" (21 : Nat) "ChanceArena$RuleReader" "openMarks" "[I") ∈ lw_R := zR (zk_1 _ (List.mem_of_getElem? (i := 112) rfl)) rfl
theorem k1_113 : (Jvm.Cond.fieldLink "ChanceArena$RuleReader" (87 : Nat) "ChanceArena$RuleReader" "opened" "I") ∈ lw_R := zR (zk_1 _ (List.mem_of_getElem? (i := 113) rfl)) rfl
theorem k1_114 : (Jvm.Cond.fieldLink "ChanceArena$RuleReader" (24 : Nat) "ChanceArena$RuleReader" "truths" "[Z") ∈ lw_R := zR (zk_1 _ (List.mem_of_getElem? (i := 114) rfl)) rfl
theorem k1_115 : (Jvm.Cond.fieldLink "ChanceArena$RuleReader" (90 : Nat) "ChanceArena$RuleReader" "operandCount" "I") ∈ lw_R := zR (zk_1 _ (List.mem_of_getElem? (i := 115) rfl)) rfl
theorem k1_116 : (Jvm.Cond.fieldLink "ChanceArena$RuleReader" (28 : Nat) "ChanceArena$RuleReader" "nameWord" "[I") ∈ lw_R := zR (zk_1 _ (List.mem_of_getElem? (i := 116) rfl)) rfl
theorem k1_117 : (Jvm.Cond.fieldLink "ChanceArena$RuleReader" (31 : Nat) "ChanceArena$RuleReader" "nameSort" "[I") ∈ lw_R := zR (zk_1 _ (List.mem_of_getElem? (i := 117) rfl)) rfl
theorem k1_118 : (Jvm.Cond.fieldLink "ChanceArena$RuleReader" (34 : Nat) "ChanceArena$RuleReader" "nameIndex" "[I") ∈ lw_R := zR (zk_1 _ (List.mem_of_getElem? (i := 118) rfl)) rfl
theorem k1_119 : (Jvm.Cond.fieldLink "ChanceArena$RuleReader" (37 : Nat) "ChanceArena$RuleReader" "nameTruth" "[Z") ∈ lw_R := zR (zk_1 _ (List.mem_of_getElem? (i := 119) rfl)) rfl
theorem k1_120 : (Jvm.Cond.fieldLink "ChanceArena$RuleReader" (61 : Nat) "ChanceArena$RuleReader" "nameCount" "I") ∈ lw_R := zR (zk_1 _ (List.mem_of_getElem? (i := 120) rfl)) rfl
theorem k1_162 : (Jvm.Cond.arrayClass Jvm.ClassFile.FieldType.boolean) ∈ lw_R := zR (zk_1 _ (List.mem_of_getElem? (i := 162) rfl)) rfl
theorem k1_163 : (Jvm.Cond.classLink "ChanceArena$TextReader" (18 : Nat) "ChanceArena$Machine") ∈ lw_R := zR (zk_1 _ (List.mem_of_getElem? (i := 163) rfl)) rfl
theorem k1_164 : (Jvm.Cond.instantiable "ChanceArena$Machine" (16 : Nat)) ∈ lw_R := zR (zk_1 _ (List.mem_of_getElem? (i := 164) rfl)) rfl
theorem k1_165 : (Jvm.Cond.methodLinkNest "ChanceArena$TextReader" (20 : Nat) ({ cls := "ChanceArena$Machine", name := "<init>", desc := "()V" } : Jvm.MethodName) "ChanceArena") ∈ lw_R := zR (zk_1 _ (List.mem_of_getElem? (i := 165) rfl)) rfl
theorem k1_166 : (Jvm.Cond.instanceMethod ({ cls := "ChanceArena$Machine", name := "<init>", desc := "()V" } : Jvm.MethodName)) ∈ lw_R := zR (zk_1 _ (List.mem_of_getElem? (i := 166) rfl)) rfl
theorem k1_167 : (Jvm.Cond.code ({ cls := "ChanceArena$Machine", name := "<init>", desc := "()V" } : Jvm.MethodName) prog_5_method_1_code (1 : Nat) (Option.none : Option Jvm.ClassFile.FieldType)) ∈ lw_R := zR (zk_1 _ (List.mem_of_getElem? (i := 167) rfl)) rfl
theorem k1_168 : (Jvm.Cond.methodLink "ChanceArena$Machine" (3 : Nat) ({ cls := "java/lang/Object", name := "<init>", desc := "()V" } : Jvm.MethodName)) ∈ lw_R := zR (zk_1 _ (List.mem_of_getElem? (i := 168) rfl)) rfl
theorem k1_169 : (Jvm.Cond.fieldLink "ChanceArena$TextReader" (51 : Nat) "ChanceArena$Machine" "text" "LChanceArena$Program;") ∈ lw_R := zR (zk_1 _ (List.mem_of_getElem? (i := 169) rfl)) rfl
theorem k1_170 : (Jvm.Cond.fieldLink "ChanceArena$Machine" (59 : Nat) "ChanceArena$Machine" "text" "LChanceArena$Program;") ∈ lw_R := zR (zk_1 _ (List.mem_of_getElem? (i := 170) rfl)) rfl
theorem k1_171 : (Jvm.Cond.fieldLink "ChanceArena$Game" (76 : Nat) "ChanceArena$Machine" "text" "LChanceArena$Program;") ∈ lw_R := zR (zk_1 _ (List.mem_of_getElem? (i := 171) rfl)) rfl
theorem k1_172 : (Jvm.Cond.fieldLink "ChanceArena$Machine" (95 : Nat) "ChanceArena$Machine" "fault" "I") ∈ lw_R := zR (zk_1 _ (List.mem_of_getElem? (i := 172) rfl)) rfl
theorem k1_173 : (Jvm.Cond.fieldLink "ChanceArena$Game" (136 : Nat) "ChanceArena$Machine" "fault" "I") ∈ lw_R := zR (zk_1 _ (List.mem_of_getElem? (i := 173) rfl)) rfl
theorem k1_174 : (Jvm.Cond.fieldLink "ChanceArena$TextReader" (167 : Nat) "ChanceArena$Machine" "fault" "I") ∈ lw_R := zR (zk_1 _ (List.mem_of_getElem? (i := 174) rfl)) rfl
theorem k1_175 : (Jvm.Cond.fieldLink "ChanceArena$Machine" (98 : Nat) "ChanceArena$Machine" "place" "I") ∈ lw_R := zR (zk_1 _ (List.mem_of_getElem? (i := 175) rfl)) rfl
theorem k1_176 : (Jvm.Cond.fieldLink "ChanceArena$Game" (132 : Nat) "ChanceArena$Machine" "place" "I") ∈ lw_R := zR (zk_1 _ (List.mem_of_getElem? (i := 176) rfl)) rfl
theorem k1_177 : (Jvm.Cond.fieldLink "ChanceArena$TextReader" (168 : Nat) "ChanceArena$Machine" "place" "I") ∈ lw_R := zR (zk_1 _ (List.mem_of_getElem? (i := 177) rfl)) rfl
theorem k1_178 : (Jvm.Cond.fieldLink "ChanceArena$Machine" (9 : Nat) "ChanceArena$Machine" "numbers" "[I") ∈ lw_R := zR (zk_1 _ (List.mem_of_getElem? (i := 178) rfl)) rfl
theorem k1_179 : (Jvm.Cond.fieldLink "ChanceArena$Machine" (43 : Nat) "ChanceArena$Machine" "base" "I") ∈ lw_R := zR (zk_1 _ (List.mem_of_getElem? (i := 179) rfl)) rfl
theorem k1_180 : (Jvm.Cond.fieldLink "ChanceArena$Machine" (15 : Nat) "ChanceArena$Machine" "next" "[I") ∈ lw_R := zR (zk_1 _ (List.mem_of_getElem? (i := 180) rfl)) rfl
theorem k1_181 : (Jvm.Cond.fieldLink "ChanceArena$Game" (83 : Nat) "ChanceArena$Machine" "next" "[I") ∈ lw_R := zR (zk_1 _ (List.mem_of_getElem? (i := 181) rfl)) rfl
theorem k1_182 : (Jvm.Cond.fieldLink "ChanceArena$Machine" (18 : Nat) "ChanceArena$Machine" "above" "[I") ∈ lw_R := zR (zk_1 _ (List.mem_of_getElem? (i := 182) rfl)) rfl
theorem k1_183 : (Jvm.Cond.fieldLink "ChanceArena$Game" (129 : Nat) "ChanceArena$Machine" "above" "[I") ∈ lw_R := zR (zk_1 _ (List.mem_of_getElem? (i := 183) rfl)) rfl
theorem k1_184 : (Jvm.Cond.fieldLink "ChanceArena$TextReader" (155 : Nat) "ChanceArena$Machine" "above" "[I") ∈ lw_R := zR (zk_1 _ (List.mem_of_getElem? (i := 184) rfl)) rfl
theorem k1_185 : (Jvm.Cond.fieldLink "ChanceArena$Machine" (21 : Nat) "ChanceArena$Machine" "below" "[I") ∈ lw_R := zR (zk_1 _ (List.mem_of_getElem? (i := 185) rfl)) rfl
theorem k1_186 : (Jvm.Cond.fieldLink "ChanceArena$TextReader" (159 : Nat) "ChanceArena$Machine" "below" "[I") ∈ lw_R := zR (zk_1 _ (List.mem_of_getElem? (i := 186) rfl)) rfl
theorem k1_187 : (Jvm.Cond.fieldLink "ChanceArena$Game" (161 : Nat) "ChanceArena$Machine" "below" "[I") ∈ lw_R := zR (zk_1 _ (List.mem_of_getElem? (i := 187) rfl)) rfl
theorem k1_188 : (Jvm.Cond.fieldLink "ChanceArena$Machine" (52 : Nat) "ChanceArena$Machine" "top" "I") ∈ lw_R := zR (zk_1 _ (List.mem_of_getElem? (i := 188) rfl)) rfl
theorem k1_189 : (Jvm.Cond.fieldLink "ChanceArena$Machine" (24 : Nat) "ChanceArena$Machine" "stamp" "I") ∈ lw_R := zR (zk_1 _ (List.mem_of_getElem? (i := 189) rfl)) rfl
theorem k1_190 : (Jvm.Cond.fieldLink "ChanceArena$Machine" (28 : Nat) "ChanceArena$Machine" "stamps" "[I") ∈ lw_R := zR (zk_1 _ (List.mem_of_getElem? (i := 190) rfl)) rfl
theorem k1_191 : (Jvm.Cond.fieldLink "ChanceArena$Machine" (31 : Nat) "ChanceArena$Machine" "metAbove" "[I") ∈ lw_R := zR (zk_1 _ (List.mem_of_getElem? (i := 191) rfl)) rfl
theorem k1_192 : (Jvm.Cond.fieldLink "ChanceArena$Machine" (34 : Nat) "ChanceArena$Machine" "metBelow" "[I") ∈ lw_R := zR (zk_1 _ (List.mem_of_getElem? (i := 192) rfl)) rfl
theorem k1_193 : (Jvm.Cond.fieldLink "ChanceArena$Machine" (37 : Nat) "ChanceArena$Machine" "called" "[I") ∈ lw_R := zR (zk_1 _ (List.mem_of_getElem? (i := 193) rfl)) rfl
theorem k1_194 : (Jvm.Cond.fieldLink "ChanceArena$Machine" (40 : Nat) "ChanceArena$Machine" "back" "[I") ∈ lw_R := zR (zk_1 _ (List.mem_of_getElem? (i := 194) rfl)) rfl
theorem k1_195 : (Jvm.Cond.fieldLink "ChanceArena$Machine" (55 : Nat) "ChanceArena$Machine" "calls" "I") ∈ lw_R := zR (zk_1 _ (List.mem_of_getElem? (i := 195) rfl)) rfl
theorem k1_229 : (Jvm.Cond.fieldLink "ChanceArena$TextReader" (12 : Nat) "ChanceArena$TextReader" "rules" "LChanceArena$RuleReader;") ∈ lw_R := zR (zk_1 _ (List.mem_of_getElem? (i := 229) rfl)) rfl
theorem k1_230 : (Jvm.Cond.fieldLink "ChanceArena$TextReader" (21 : Nat) "ChanceArena$TextReader" "machine" "LChanceArena$Machine;") ∈ lw_R := zR (zk_1 _ (List.mem_of_getElem? (i := 230) rfl)) rfl
theorem k1_231 : (Jvm.Cond.fieldLink "ChanceArena$TextReader" (36 : Nat) "ChanceArena$TextReader" "text" "LChanceArena$Program;") ∈ lw_R := zR (zk_1 _ (List.mem_of_getElem? (i := 231) rfl)) rfl
theorem k1_232 : (Jvm.Cond.fieldLink "ChanceArena$TextReader" (99 : Nat) "ChanceArena$TextReader" "nameWord" "I") ∈ lw_R := zR (zk_1 _ (List.mem_of_getElem? (i := 232) rfl)) rfl
theorem k1_233 : (Jvm.Cond.fieldLink "ChanceArena$TextReader" (169 : Nat) "ChanceArena$TextReader" "itemStart" "I") ∈ lw_R := zR (zk_1 _ (List.mem_of_getElem? (i := 233) rfl)) rfl
theorem k1_234 : (Jvm.Cond.fieldLink "ChanceArena$TextReader" (25 : Nat) "ChanceArena$TextReader" "ruleStart" "[I") ∈ lw_R := zR (zk_1 _ (List.mem_of_getElem? (i := 234) rfl)) rfl
theorem k1_235 : (Jvm.Cond.fieldLink "ChanceArena$TextReader" (29 : Nat) "ChanceArena$TextReader" "rulePlace" "[I") ∈ lw_R := zR (zk_1 _ (List.mem_of_getElem? (i := 235) rfl)) rfl
theorem k1_236 : (Jvm.Cond.fieldLink "ChanceArena$TextReader" (175 : Nat) "ChanceArena$TextReader" "inited" "Z") ∈ lw_R := zR (zk_1 _ (List.mem_of_getElem? (i := 236) rfl)) rfl
theorem k1_237 : (Jvm.Cond.fieldLink "ChanceArena$TextReader" (143 : Nat) "ChanceArena$TextReader" "truth" "Z") ∈ lw_R := zR (zk_1 _ (List.mem_of_getElem? (i := 237) rfl)) rfl
theorem k2_17 : (Jvm.Cond.classLink "ChanceArena" (31 : Nat) "ChanceArena$Program") ∈ lw_R := zR (zk_2 _ (List.mem_of_getElem? (i := 17) rfl)) rfl
theorem k2_18 : (Jvm.Cond.instantiable "ChanceArena$Program" (20 : Nat)) ∈ lw_R := zR (zk_2 _ (List.mem_of_getElem? (i := 18) rfl)) rfl
theorem k2_19 : (Jvm.Cond.methodLinkNest "ChanceArena" (33 : Nat) ({ cls := "ChanceArena$Program", name := "<init>", desc := "()V" } : Jvm.MethodName) "ChanceArena") ∈ lw_R := zR (zk_2 _ (List.mem_of_getElem? (i := 19) rfl)) rfl
theorem k2_20 : (Jvm.Cond.instanceMethod ({ cls := "ChanceArena$Program", name := "<init>", desc := "()V" } : Jvm.MethodName)) ∈ lw_R := zR (zk_2 _ (List.mem_of_getElem? (i := 20) rfl)) rfl
theorem k2_21 : (Jvm.Cond.code ({ cls := "ChanceArena$Program", name := "<init>", desc := "()V" } : Jvm.MethodName) prog_7_method_1_code (1 : Nat) (Option.none : Option Jvm.ClassFile.FieldType)) ∈ lw_R := zR (zk_2 _ (List.mem_of_getElem? (i := 21) rfl)) rfl
theorem k2_22 : (Jvm.Cond.methodLink "ChanceArena$Program" (3 : Nat) ({ cls := "java/lang/Object", name := "<init>", desc := "()V" } : Jvm.MethodName)) ∈ lw_R := zR (zk_2 _ (List.mem_of_getElem? (i := 22) rfl)) rfl
theorem k2_23 : (Jvm.Cond.fieldLink "ChanceArena$Program" (9 : Nat) "ChanceArena$Program" "orders" "[I") ∈ lw_R := zR (zk_2 _ (List.mem_of_getElem? (i := 23) rfl)) rfl
theorem k2_24 : (Jvm.Cond.fieldLink "ChanceArena$Machine" (68 : Nat) "ChanceArena$Program" "orders" "[I") ∈ lw_R := zR (zk_2 _ (List.mem_of_getElem? (i := 24) rfl)) rfl
theorem k2_25 : (Jvm.Cond.fieldLink "ChanceArena$Program" (15 : Nat) "ChanceArena$Program" "operands" "[I") ∈ lw_R := zR (zk_2 _ (List.mem_of_getElem? (i := 25) rfl)) rfl
theorem k2_26 : (Jvm.Cond.fieldLink "ChanceArena$Machine" (71 : Nat) "ChanceArena$Program" "operands" "[I") ∈ lw_R := zR (zk_2 _ (List.mem_of_getElem? (i := 26) rfl)) rfl
theorem k2_27 : (Jvm.Cond.fieldLink "ChanceArena$RuleReader" (165 : Nat) "ChanceArena$Program" "operands" "[I") ∈ lw_R := zR (zk_2 _ (List.mem_of_getElem? (i := 27) rfl)) rfl
theorem k2_28 : (Jvm.Cond.fieldLink "ChanceArena$Program" (57 : Nat) "ChanceArena$Program" "length" "I") ∈ lw_R := zR (zk_2 _ (List.mem_of_getElem? (i := 28) rfl)) rfl
theorem k2_29 : (Jvm.Cond.fieldLink "ChanceArena$TextReader" (116 : Nat) "ChanceArena$Program" "length" "I") ∈ lw_R := zR (zk_2 _ (List.mem_of_getElem? (i := 29) rfl)) rfl
theorem k2_30 : (Jvm.Cond.fieldLink "ChanceArena$Machine" (63 : Nat) "ChanceArena$Program" "length" "I") ∈ lw_R := zR (zk_2 _ (List.mem_of_getElem? (i := 30) rfl)) rfl
theorem k2_31 : (Jvm.Cond.fieldLink "ChanceArena$RuleReader" (168 : Nat) "ChanceArena$Program" "length" "I") ∈ lw_R := zR (zk_2 _ (List.mem_of_getElem? (i := 31) rfl)) rfl
theorem k2_32 : (Jvm.Cond.fieldLink "ChanceArena$Program" (61 : Nat) "ChanceArena$Program" "vars" "I") ∈ lw_R := zR (zk_2 _ (List.mem_of_getElem? (i := 32) rfl)) rfl
theorem k2_33 : (Jvm.Cond.fieldLink "ChanceArena$Game" (91 : Nat) "ChanceArena$Program" "vars" "I") ∈ lw_R := zR (zk_2 _ (List.mem_of_getElem? (i := 33) rfl)) rfl
theorem k2_34 : (Jvm.Cond.fieldLink "ChanceArena$TextReader" (172 : Nat) "ChanceArena$Program" "vars" "I") ∈ lw_R := zR (zk_2 _ (List.mem_of_getElem? (i := 34) rfl)) rfl
theorem k2_35 : (Jvm.Cond.fieldLink "ChanceArena" (140 : Nat) "ChanceArena$Program" "vars" "I") ∈ lw_R := zR (zk_2 _ (List.mem_of_getElem? (i := 35) rfl)) rfl
theorem k2_36 : (Jvm.Cond.fieldLink "ChanceArena$Program" (18 : Nat) "ChanceArena$Program" "low" "[I") ∈ lw_R := zR (zk_2 _ (List.mem_of_getElem? (i := 36) rfl)) rfl
theorem k2_37 : (Jvm.Cond.fieldLink "ChanceArena$TextReader" (178 : Nat) "ChanceArena$Program" "low" "[I") ∈ lw_R := zR (zk_2 _ (List.mem_of_getElem? (i := 37) rfl)) rfl
theorem k2_38 : (Jvm.Cond.fieldLink "ChanceArena$Machine" (132 : Nat) "ChanceArena$Program" "low" "[I") ∈ lw_R := zR (zk_2 _ (List.mem_of_getElem? (i := 38) rfl)) rfl
theorem k2_39 : (Jvm.Cond.fieldLink "ChanceArena$Program" (21 : Nat) "ChanceArena$Program" "high" "[I") ∈ lw_R := zR (zk_2 _ (List.mem_of_getElem? (i := 39) rfl)) rfl
theorem k2_40 : (Jvm.Cond.fieldLink "ChanceArena$TextReader" (181 : Nat) "ChanceArena$Program" "high" "[I") ∈ lw_R := zR (zk_2 _ (List.mem_of_getElem? (i := 40) rfl)) rfl
theorem k2_41 : (Jvm.Cond.fieldLink "ChanceArena$Machine" (135 : Nat) "ChanceArena$Program" "high" "[I") ∈ lw_R := zR (zk_2 _ (List.mem_of_getElem? (i := 41) rfl)) rfl
theorem k2_42 : (Jvm.Cond.fieldLink "ChanceArena$Program" (24 : Nat) "ChanceArena$Program" "init" "[I") ∈ lw_R := zR (zk_2 _ (List.mem_of_getElem? (i := 42) rfl)) rfl
theorem k2_43 : (Jvm.Cond.fieldLink "ChanceArena$Game" (86 : Nat) "ChanceArena$Program" "init" "[I") ∈ lw_R := zR (zk_2 _ (List.mem_of_getElem? (i := 43) rfl)) rfl
theorem k2_44 : (Jvm.Cond.fieldLink "ChanceArena$TextReader" (184 : Nat) "ChanceArena$Program" "init" "[I") ∈ lw_R := zR (zk_2 _ (List.mem_of_getElem? (i := 44) rfl)) rfl
theorem k2_45 : (Jvm.Cond.fieldLink "ChanceArena$Program" (64 : Nat) "ChanceArena$Program" "names" "I") ∈ lw_R := zR (zk_2 _ (List.mem_of_getElem? (i := 45) rfl)) rfl
theorem k2_46 : (Jvm.Cond.fieldLink "ChanceArena$TextReader" (129 : Nat) "ChanceArena$Program" "names" "I") ∈ lw_R := zR (zk_2 _ (List.mem_of_getElem? (i := 46) rfl)) rfl
theorem k2_47 : (Jvm.Cond.fieldLink "ChanceArena" (143 : Nat) "ChanceArena$Program" "names" "I") ∈ lw_R := zR (zk_2 _ (List.mem_of_getElem? (i := 47) rfl)) rfl
theorem k2_48 : (Jvm.Cond.fieldLink "ChanceArena$Program" (27 : Nat) "ChanceArena$Program" "above" "[I") ∈ lw_R := zR (zk_2 _ (List.mem_of_getElem? (i := 48) rfl)) rfl
theorem k2_49 : (Jvm.Cond.fieldLink "ChanceArena$Machine" (78 : Nat) "ChanceArena$Program" "above" "[I") ∈ lw_R := zR (zk_2 _ (List.mem_of_getElem? (i := 49) rfl)) rfl
theorem k2_50 : (Jvm.Cond.fieldLink "ChanceArena$TextReader" (152 : Nat) "ChanceArena$Program" "above" "[I") ∈ lw_R := zR (zk_2 _ (List.mem_of_getElem? (i := 50) rfl)) rfl
theorem k2_51 : (Jvm.Cond.fieldLink "ChanceArena$Program" (30 : Nat) "ChanceArena$Program" "below" "[I") ∈ lw_R := zR (zk_2 _ (List.mem_of_getElem? (i := 51) rfl)) rfl
theorem k2_52 : (Jvm.Cond.fieldLink "ChanceArena$Machine" (79 : Nat) "ChanceArena$Program" "below" "[I") ∈ lw_R := zR (zk_2 _ (List.mem_of_getElem? (i := 52) rfl)) rfl
theorem k2_53 : (Jvm.Cond.fieldLink "ChanceArena$TextReader" (156 : Nat) "ChanceArena$Program" "below" "[I") ∈ lw_R := zR (zk_2 _ (List.mem_of_getElem? (i := 53) rfl)) rfl
theorem k2_54 : (Jvm.Cond.fieldLink "ChanceArena$Program" (33 : Nat) "ChanceArena$Program" "formula" "[I") ∈ lw_R := zR (zk_2 _ (List.mem_of_getElem? (i := 54) rfl)) rfl
theorem k2_55 : (Jvm.Cond.fieldLink "ChanceArena$TextReader" (149 : Nat) "ChanceArena$Program" "formula" "[I") ∈ lw_R := zR (zk_2 _ (List.mem_of_getElem? (i := 55) rfl)) rfl
theorem k2_56 : (Jvm.Cond.fieldLink "ChanceArena$Machine" (107 : Nat) "ChanceArena$Program" "formula" "[I") ∈ lw_R := zR (zk_2 _ (List.mem_of_getElem? (i := 56) rfl)) rfl
theorem k2_57 : (Jvm.Cond.fieldLink "ChanceArena$Program" (70 : Nat) "ChanceArena$Program" "target" "I") ∈ lw_R := zR (zk_2 _ (List.mem_of_getElem? (i := 57) rfl)) rfl
theorem k2_58 : (Jvm.Cond.fieldLink "ChanceArena$TextReader" (89 : Nat) "ChanceArena$Program" "target" "I") ∈ lw_R := zR (zk_2 _ (List.mem_of_getElem? (i := 58) rfl)) rfl
theorem k2_59 : (Jvm.Cond.fieldLink "ChanceArena$Game" (120 : Nat) "ChanceArena$Program" "target" "I") ∈ lw_R := zR (zk_2 _ (List.mem_of_getElem? (i := 59) rfl)) rfl
theorem k2_60 : (Jvm.Cond.fieldLink "ChanceArena$Program" (67 : Nat) "ChanceArena$Program" "commands" "I") ∈ lw_R := zR (zk_2 _ (List.mem_of_getElem? (i := 60) rfl)) rfl
theorem k2_61 : (Jvm.Cond.fieldLink "ChanceArena$Game" (108 : Nat) "ChanceArena$Program" "commands" "I") ∈ lw_R := zR (zk_2 _ (List.mem_of_getElem? (i := 61) rfl)) rfl
theorem k2_62 : (Jvm.Cond.fieldLink "ChanceArena" (146 : Nat) "ChanceArena$Program" "commands" "I") ∈ lw_R := zR (zk_2 _ (List.mem_of_getElem? (i := 62) rfl)) rfl
theorem k2_63 : (Jvm.Cond.fieldLink "ChanceArena$TextReader" (187 : Nat) "ChanceArena$Program" "commands" "I") ∈ lw_R := zR (zk_2 _ (List.mem_of_getElem? (i := 63) rfl)) rfl
theorem k2_64 : (Jvm.Cond.fieldLink "ChanceArena$Program" (36 : Nat) "ChanceArena$Program" "player" "[I") ∈ lw_R := zR (zk_2 _ (List.mem_of_getElem? (i := 64) rfl)) rfl
theorem k2_65 : (Jvm.Cond.fieldLink "ChanceArena$Game" (142 : Nat) "ChanceArena$Program" "player" "[I") ∈ lw_R := zR (zk_2 _ (List.mem_of_getElem? (i := 65) rfl)) rfl
theorem k2_66 : (Jvm.Cond.fieldLink "ChanceArena$TextReader" (195 : Nat) "ChanceArena$Program" "player" "[I") ∈ lw_R := zR (zk_2 _ (List.mem_of_getElem? (i := 66) rfl)) rfl
theorem k2_67 : (Jvm.Cond.fieldLink "ChanceArena$Program" (39 : Nat) "ChanceArena$Program" "commandPlace" "[I") ∈ lw_R := zR (zk_2 _ (List.mem_of_getElem? (i := 67) rfl)) rfl
theorem k2_68 : (Jvm.Cond.fieldLink "ChanceArena$Game" (145 : Nat) "ChanceArena$Program" "commandPlace" "[I") ∈ lw_R := zR (zk_2 _ (List.mem_of_getElem? (i := 68) rfl)) rfl
theorem k2_69 : (Jvm.Cond.fieldLink "ChanceArena$TextReader" (198 : Nat) "ChanceArena$Program" "commandPlace" "[I") ∈ lw_R := zR (zk_2 _ (List.mem_of_getElem? (i := 69) rfl)) rfl
theorem k2_70 : (Jvm.Cond.fieldLink "ChanceArena$Program" (42 : Nat) "ChanceArena$Program" "guard" "[I") ∈ lw_R := zR (zk_2 _ (List.mem_of_getElem? (i := 70) rfl)) rfl
theorem k2_71 : (Jvm.Cond.fieldLink "ChanceArena$Game" (139 : Nat) "ChanceArena$Program" "guard" "[I") ∈ lw_R := zR (zk_2 _ (List.mem_of_getElem? (i := 71) rfl)) rfl
theorem k2_72 : (Jvm.Cond.fieldLink "ChanceArena$TextReader" (201 : Nat) "ChanceArena$Program" "guard" "[I") ∈ lw_R := zR (zk_2 _ (List.mem_of_getElem? (i := 72) rfl)) rfl
theorem k2_73 : (Jvm.Cond.fieldLink "ChanceArena$Program" (45 : Nat) "ChanceArena$Program" "firstBranch" "[I") ∈ lw_R := zR (zk_2 _ (List.mem_of_getElem? (i := 73) rfl)) rfl
theorem k2_74 : (Jvm.Cond.fieldLink "ChanceArena$Game" (153 : Nat) "ChanceArena$Program" "firstBranch" "[I") ∈ lw_R := zR (zk_2 _ (List.mem_of_getElem? (i := 74) rfl)) rfl
theorem k2_75 : (Jvm.Cond.fieldLink "ChanceArena$TextReader" (204 : Nat) "ChanceArena$Program" "firstBranch" "[I") ∈ lw_R := zR (zk_2 _ (List.mem_of_getElem? (i := 75) rfl)) rfl
theorem k2_76 : (Jvm.Cond.fieldLink "ChanceArena$Program" (48 : Nat) "ChanceArena$Program" "branchPlace" "[I") ∈ lw_R := zR (zk_2 _ (List.mem_of_getElem? (i := 76) rfl)) rfl
theorem k2_77 : (Jvm.Cond.fieldLink "ChanceArena$Game" (164 : Nat) "ChanceArena$Program" "branchPlace" "[I") ∈ lw_R := zR (zk_2 _ (List.mem_of_getElem? (i := 77) rfl)) rfl
theorem k2_78 : (Jvm.Cond.fieldLink "ChanceArena$TextReader" (213 : Nat) "ChanceArena$Program" "branchPlace" "[I") ∈ lw_R := zR (zk_2 _ (List.mem_of_getElem? (i := 78) rfl)) rfl
theorem k2_79 : (Jvm.Cond.fieldLink "ChanceArena$Program" (51 : Nat) "ChanceArena$Program" "chance" "[I") ∈ lw_R := zR (zk_2 _ (List.mem_of_getElem? (i := 79) rfl)) rfl
theorem k2_80 : (Jvm.Cond.fieldLink "ChanceArena$Game" (158 : Nat) "ChanceArena$Program" "chance" "[I") ∈ lw_R := zR (zk_2 _ (List.mem_of_getElem? (i := 80) rfl)) rfl
theorem k2_81 : (Jvm.Cond.fieldLink "ChanceArena$TextReader" (216 : Nat) "ChanceArena$Program" "chance" "[I") ∈ lw_R := zR (zk_2 _ (List.mem_of_getElem? (i := 81) rfl)) rfl
theorem k2_82 : (Jvm.Cond.fieldLink "ChanceArena$Program" (54 : Nat) "ChanceArena$Program" "sets" "[I") ∈ lw_R := zR (zk_2 _ (List.mem_of_getElem? (i := 82) rfl)) rfl
theorem k2_83 : (Jvm.Cond.fieldLink "ChanceArena$Game" (176 : Nat) "ChanceArena$Program" "sets" "[I") ∈ lw_R := zR (zk_2 _ (List.mem_of_getElem? (i := 83) rfl)) rfl
theorem k2_84 : (Jvm.Cond.fieldLink "ChanceArena$TextReader" (219 : Nat) "ChanceArena$Program" "sets" "[I") ∈ lw_R := zR (zk_2 _ (List.mem_of_getElem? (i := 84) rfl)) rfl
theorem k2_126 : (Jvm.Cond.classLink "ChanceArena" (51 : Nat) "ChanceArena$Game") ∈ lw_R := zR (zk_2 _ (List.mem_of_getElem? (i := 126) rfl)) rfl
theorem k2_127 : (Jvm.Cond.instantiable "ChanceArena$Game" (19 : Nat)) ∈ lw_R := zR (zk_2 _ (List.mem_of_getElem? (i := 127) rfl)) rfl
theorem k2_128 : (Jvm.Cond.methodLinkNest "ChanceArena" (53 : Nat) ({ cls := "ChanceArena$Game", name := "<init>", desc := "()V" } : Jvm.MethodName) "ChanceArena") ∈ lw_R := zR (zk_2 _ (List.mem_of_getElem? (i := 128) rfl)) rfl
theorem k2_129 : (Jvm.Cond.instanceMethod ({ cls := "ChanceArena$Game", name := "<init>", desc := "()V" } : Jvm.MethodName)) ∈ lw_R := zR (zk_2 _ (List.mem_of_getElem? (i := 129) rfl)) rfl
theorem k2_130 : (Jvm.Cond.code ({ cls := "ChanceArena$Game", name := "<init>", desc := "()V" } : Jvm.MethodName) prog_4_method_1_code (1 : Nat) (Option.none : Option Jvm.ClassFile.FieldType)) ∈ lw_R := zR (zk_2 _ (List.mem_of_getElem? (i := 130) rfl)) rfl
theorem k2_131 : (Jvm.Cond.methodLink "ChanceArena$Game" (3 : Nat) ({ cls := "java/lang/Object", name := "<init>", desc := "()V" } : Jvm.MethodName)) ∈ lw_R := zR (zk_2 _ (List.mem_of_getElem? (i := 131) rfl)) rfl
theorem k2_132 : (Jvm.Cond.classLink "ChanceArena$Game" (39 : Nat) "ChanceArena$Machine") ∈ lw_R := zR (zk_2 _ (List.mem_of_getElem? (i := 132) rfl)) rfl
theorem k2_133 : (Jvm.Cond.methodLinkNest "ChanceArena$Game" (41 : Nat) ({ cls := "ChanceArena$Machine", name := "<init>", desc := "()V" } : Jvm.MethodName) "ChanceArena") ∈ lw_R := zR (zk_2 _ (List.mem_of_getElem? (i := 133) rfl)) rfl
theorem k2_134 : (Jvm.Cond.fieldLink "ChanceArena$Game" (55 : Nat) "ChanceArena$Game" "count" "I") ∈ lw_R := zR (zk_2 _ (List.mem_of_getElem? (i := 134) rfl)) rfl
theorem k2_135 : (Jvm.Cond.fieldLink "ChanceArena$Fractions" (31 : Nat) "ChanceArena$Game" "count" "I") ∈ lw_R := zR (zk_2 _ (List.mem_of_getElem? (i := 135) rfl)) rfl
theorem k2_136 : (Jvm.Cond.fieldLink "ChanceArena$Solver" (107 : Nat) "ChanceArena$Game" "count" "I") ∈ lw_R := zR (zk_2 _ (List.mem_of_getElem? (i := 136) rfl)) rfl
theorem k2_137 : (Jvm.Cond.fieldLink "ChanceArena$Scales" (166 : Nat) "ChanceArena$Game" "count" "I") ∈ lw_R := zR (zk_2 _ (List.mem_of_getElem? (i := 137) rfl)) rfl
theorem k2_138 : (Jvm.Cond.fieldLink "ChanceArena" (160 : Nat) "ChanceArena$Game" "count" "I") ∈ lw_R := zR (zk_2 _ (List.mem_of_getElem? (i := 138) rfl)) rfl
theorem k2_139 : (Jvm.Cond.fieldLink "ChanceArena$Game" (9 : Nat) "ChanceArena$Game" "numbers" "[I") ∈ lw_R := zR (zk_2 _ (List.mem_of_getElem? (i := 139) rfl)) rfl
theorem k2_140 : (Jvm.Cond.fieldLink "ChanceArena" (170 : Nat) "ChanceArena$Game" "numbers" "[I") ∈ lw_R := zR (zk_2 _ (List.mem_of_getElem? (i := 140) rfl)) rfl
theorem k2_141 : (Jvm.Cond.fieldLink "ChanceArena$Game" (15 : Nat) "ChanceArena$Game" "sorts" "[I") ∈ lw_R := zR (zk_2 _ (List.mem_of_getElem? (i := 141) rfl)) rfl
theorem k2_142 : (Jvm.Cond.fieldLink "ChanceArena$Solver" (113 : Nat) "ChanceArena$Game" "sorts" "[I") ∈ lw_R := zR (zk_2 _ (List.mem_of_getElem? (i := 142) rfl)) rfl
theorem k2_143 : (Jvm.Cond.fieldLink "ChanceArena$Fractions" (41 : Nat) "ChanceArena$Game" "sorts" "[I") ∈ lw_R := zR (zk_2 _ (List.mem_of_getElem? (i := 143) rfl)) rfl
theorem k2_144 : (Jvm.Cond.fieldLink "ChanceArena$Scales" (178 : Nat) "ChanceArena$Game" "sorts" "[I") ∈ lw_R := zR (zk_2 _ (List.mem_of_getElem? (i := 144) rfl)) rfl
theorem k2_145 : (Jvm.Cond.fieldLink "ChanceArena" (174 : Nat) "ChanceArena$Game" "sorts" "[I") ∈ lw_R := zR (zk_2 _ (List.mem_of_getElem? (i := 145) rfl)) rfl
theorem k2_146 : (Jvm.Cond.fieldLink "ChanceArena$Game" (18 : Nat) "ChanceArena$Game" "told" "[I") ∈ lw_R := zR (zk_2 _ (List.mem_of_getElem? (i := 146) rfl)) rfl
theorem k2_147 : (Jvm.Cond.fieldLink "ChanceArena$Solver" (119 : Nat) "ChanceArena$Game" "told" "[I") ∈ lw_R := zR (zk_2 _ (List.mem_of_getElem? (i := 147) rfl)) rfl
theorem k2_148 : (Jvm.Cond.fieldLink "ChanceArena" (226 : Nat) "ChanceArena$Game" "told" "[I") ∈ lw_R := zR (zk_2 _ (List.mem_of_getElem? (i := 148) rfl)) rfl
theorem k2_149 : (Jvm.Cond.fieldLink "ChanceArena$Game" (21 : Nat) "ChanceArena$Game" "firstCommand" "[I") ∈ lw_R := zR (zk_2 _ (List.mem_of_getElem? (i := 149) rfl)) rfl
theorem k2_150 : (Jvm.Cond.fieldLink "ChanceArena$Solver" (116 : Nat) "ChanceArena$Game" "firstCommand" "[I") ∈ lw_R := zR (zk_2 _ (List.mem_of_getElem? (i := 150) rfl)) rfl
theorem k2_151 : (Jvm.Cond.fieldLink "ChanceArena$Scales" (172 : Nat) "ChanceArena$Game" "firstCommand" "[I") ∈ lw_R := zR (zk_2 _ (List.mem_of_getElem? (i := 151) rfl)) rfl
theorem k2_152 : (Jvm.Cond.fieldLink "ChanceArena" (177 : Nat) "ChanceArena$Game" "firstCommand" "[I") ∈ lw_R := zR (zk_2 _ (List.mem_of_getElem? (i := 152) rfl)) rfl
theorem k2_153 : (Jvm.Cond.fieldLink "ChanceArena$Game" (24 : Nat) "ChanceArena$Game" "textCommand" "[I") ∈ lw_R := zR (zk_2 _ (List.mem_of_getElem? (i := 153) rfl)) rfl
theorem k2_154 : (Jvm.Cond.fieldLink "ChanceArena" (184 : Nat) "ChanceArena$Game" "textCommand" "[I") ∈ lw_R := zR (zk_2 _ (List.mem_of_getElem? (i := 154) rfl)) rfl
theorem k2_155 : (Jvm.Cond.fieldLink "ChanceArena$Game" (27 : Nat) "ChanceArena$Game" "multiple" "[I") ∈ lw_R := zR (zk_2 _ (List.mem_of_getElem? (i := 155) rfl)) rfl
theorem k2_156 : (Jvm.Cond.fieldLink "ChanceArena$Scales" (135 : Nat) "ChanceArena$Game" "multiple" "[I") ∈ lw_R := zR (zk_2 _ (List.mem_of_getElem? (i := 156) rfl)) rfl
theorem k2_157 : (Jvm.Cond.fieldLink "ChanceArena$Solver" (145 : Nat) "ChanceArena$Game" "multiple" "[I") ∈ lw_R := zR (zk_2 _ (List.mem_of_getElem? (i := 157) rfl)) rfl
theorem k2_158 : (Jvm.Cond.fieldLink "ChanceArena" (193 : Nat) "ChanceArena$Game" "multiple" "[I") ∈ lw_R := zR (zk_2 _ (List.mem_of_getElem? (i := 158) rfl)) rfl
theorem k2_159 : (Jvm.Cond.fieldLink "ChanceArena$Game" (30 : Nat) "ChanceArena$Game" "firstBranch" "[I") ∈ lw_R := zR (zk_2 _ (List.mem_of_getElem? (i := 159) rfl)) rfl
theorem k2_160 : (Jvm.Cond.fieldLink "ChanceArena$Solver" (139 : Nat) "ChanceArena$Game" "firstBranch" "[I") ∈ lw_R := zR (zk_2 _ (List.mem_of_getElem? (i := 160) rfl)) rfl
theorem k2_161 : (Jvm.Cond.fieldLink "ChanceArena$Scales" (140 : Nat) "ChanceArena$Game" "firstBranch" "[I") ∈ lw_R := zR (zk_2 _ (List.mem_of_getElem? (i := 161) rfl)) rfl
theorem k2_162 : (Jvm.Cond.fieldLink "ChanceArena" (187 : Nat) "ChanceArena$Game" "firstBranch" "[I") ∈ lw_R := zR (zk_2 _ (List.mem_of_getElem? (i := 162) rfl)) rfl
theorem k2_163 : (Jvm.Cond.fieldLink "ChanceArena$Game" (33 : Nat) "ChanceArena$Game" "goal" "[I") ∈ lw_R := zR (zk_2 _ (List.mem_of_getElem? (i := 163) rfl)) rfl
theorem k2_164 : (Jvm.Cond.fieldLink "ChanceArena$Solver" (142 : Nat) "ChanceArena$Game" "goal" "[I") ∈ lw_R := zR (zk_2 _ (List.mem_of_getElem? (i := 164) rfl)) rfl
theorem k2_165 : (Jvm.Cond.fieldLink "ChanceArena$Scales" (149 : Nat) "ChanceArena$Game" "goal" "[I") ∈ lw_R := zR (zk_2 _ (List.mem_of_getElem? (i := 165) rfl)) rfl
theorem k2_166 : (Jvm.Cond.fieldLink "ChanceArena" (202 : Nat) "ChanceArena$Game" "goal" "[I") ∈ lw_R := zR (zk_2 _ (List.mem_of_getElem? (i := 166) rfl)) rfl
theorem k2_167 : (Jvm.Cond.fieldLink "ChanceArena$Game" (36 : Nat) "ChanceArena$Game" "weight" "[I") ∈ lw_R := zR (zk_2 _ (List.mem_of_getElem? (i := 167) rfl)) rfl
theorem k2_168 : (Jvm.Cond.fieldLink "ChanceArena$Scales" (152 : Nat) "ChanceArena$Game" "weight" "[I") ∈ lw_R := zR (zk_2 _ (List.mem_of_getElem? (i := 168) rfl)) rfl
theorem k2_169 : (Jvm.Cond.fieldLink "ChanceArena$Solver" (162 : Nat) "ChanceArena$Game" "weight" "[I") ∈ lw_R := zR (zk_2 _ (List.mem_of_getElem? (i := 169) rfl)) rfl
theorem k2_170 : (Jvm.Cond.fieldLink "ChanceArena" (190 : Nat) "ChanceArena$Game" "weight" "[I") ∈ lw_R := zR (zk_2 _ (List.mem_of_getElem? (i := 170) rfl)) rfl
theorem k2_171 : (Jvm.Cond.fieldLink "ChanceArena$Game" (135 : Nat) "ChanceArena$Game" "place" "I") ∈ lw_R := zR (zk_2 _ (List.mem_of_getElem? (i := 171) rfl)) rfl
theorem k2_172 : (Jvm.Cond.fieldLink "ChanceArena" (156 : Nat) "ChanceArena$Game" "place" "I") ∈ lw_R := zR (zk_2 _ (List.mem_of_getElem? (i := 172) rfl)) rfl
theorem k2_173 : (Jvm.Cond.fieldLink "ChanceArena$Game" (115 : Nat) "ChanceArena$Game" "faultState" "I") ∈ lw_R := zR (zk_2 _ (List.mem_of_getElem? (i := 173) rfl)) rfl
theorem k2_174 : (Jvm.Cond.fieldLink "ChanceArena" (159 : Nat) "ChanceArena$Game" "faultState" "I") ∈ lw_R := zR (zk_2 _ (List.mem_of_getElem? (i := 174) rfl)) rfl
theorem k2_175 : (Jvm.Cond.fieldLink "ChanceArena$Game" (59 : Nat) "ChanceArena$Game" "commandCount" "I") ∈ lw_R := zR (zk_2 _ (List.mem_of_getElem? (i := 175) rfl)) rfl
theorem k2_176 : (Jvm.Cond.fieldLink "ChanceArena$Game" (62 : Nat) "ChanceArena$Game" "branchCount" "I") ∈ lw_R := zR (zk_2 _ (List.mem_of_getElem? (i := 176) rfl)) rfl
theorem k2_177 : (Jvm.Cond.fieldLink "ChanceArena$Game" (72 : Nat) "ChanceArena$Game" "text" "LChanceArena$Program;") ∈ lw_R := zR (zk_2 _ (List.mem_of_getElem? (i := 177) rfl)) rfl
theorem k2_178 : (Jvm.Cond.fieldLink "ChanceArena$Game" (42 : Nat) "ChanceArena$Game" "machine" "LChanceArena$Machine;") ∈ lw_R := zR (zk_2 _ (List.mem_of_getElem? (i := 178) rfl)) rfl
theorem k2_179 : (Jvm.Cond.fieldLink "ChanceArena$Game" (46 : Nat) "ChanceArena$Game" "slots" "[I") ∈ lw_R := zR (zk_2 _ (List.mem_of_getElem? (i := 179) rfl)) rfl
theorem k2_180 : (Jvm.Cond.fieldLink "ChanceArena$Game" (49 : Nat) "ChanceArena$Game" "chanceAbove" "[I") ∈ lw_R := zR (zk_2 _ (List.mem_of_getElem? (i := 180) rfl)) rfl
theorem k2_181 : (Jvm.Cond.fieldLink "ChanceArena$Game" (52 : Nat) "ChanceArena$Game" "chanceBelow" "[I") ∈ lw_R := zR (zk_2 _ (List.mem_of_getElem? (i := 181) rfl)) rfl
theorem k2_221 : (Jvm.Cond.classLink "ChanceArena" (58 : Nat) "ChanceArena$Solver") ∈ lw_R := zR (zk_2 _ (List.mem_of_getElem? (i := 221) rfl)) rfl
theorem k2_222 : (Jvm.Cond.instantiable "ChanceArena$Solver" (18 : Nat)) ∈ lw_R := zR (zk_2 _ (List.mem_of_getElem? (i := 222) rfl)) rfl
theorem k2_223 : (Jvm.Cond.methodLink "ChanceArena" (60 : Nat) ({ cls := "ChanceArena$Solver", name := "<init>", desc := "(LChanceArena$Game;)V" } : Jvm.MethodName)) ∈ lw_R := zR (zk_2 _ (List.mem_of_getElem? (i := 223) rfl)) rfl
theorem k2_224 : (Jvm.Cond.instanceMethod ({ cls := "ChanceArena$Solver", name := "<init>", desc := "(LChanceArena$Game;)V" } : Jvm.MethodName)) ∈ lw_R := zR (zk_2 _ (List.mem_of_getElem? (i := 224) rfl)) rfl
theorem k2_225 : (Jvm.Cond.code ({ cls := "ChanceArena$Solver", name := "<init>", desc := "(LChanceArena$Game;)V" } : Jvm.MethodName) prog_11_method_1_code (2 : Nat) (Option.none : Option Jvm.ClassFile.FieldType)) ∈ lw_R := zR (zk_2 _ (List.mem_of_getElem? (i := 225) rfl)) rfl
theorem k2_226 : (Jvm.Cond.methodLink "ChanceArena$Solver" (3 : Nat) ({ cls := "java/lang/Object", name := "<init>", desc := "()V" } : Jvm.MethodName)) ∈ lw_R := zR (zk_2 _ (List.mem_of_getElem? (i := 226) rfl)) rfl
theorem k2_227 : (Jvm.Cond.classLink "ChanceArena$Solver" (9 : Nat) "ChanceArena$Scales") ∈ lw_R := zR (zk_2 _ (List.mem_of_getElem? (i := 227) rfl)) rfl
theorem k2_228 : (Jvm.Cond.instantiable "ChanceArena$Scales" (11 : Nat)) ∈ lw_R := zR (zk_2 _ (List.mem_of_getElem? (i := 228) rfl)) rfl
theorem k2_229 : (Jvm.Cond.methodLinkNest "ChanceArena$Solver" (11 : Nat) ({ cls := "ChanceArena$Scales", name := "<init>", desc := "()V" } : Jvm.MethodName) "ChanceArena") ∈ lw_R := zR (zk_2 _ (List.mem_of_getElem? (i := 229) rfl)) rfl
theorem k2_230 : (Jvm.Cond.instanceMethod ({ cls := "ChanceArena$Scales", name := "<init>", desc := "()V" } : Jvm.MethodName)) ∈ lw_R := zR (zk_2 _ (List.mem_of_getElem? (i := 230) rfl)) rfl
theorem k2_231 : (Jvm.Cond.code ({ cls := "ChanceArena$Scales", name := "<init>", desc := "()V" } : Jvm.MethodName) prog_10_method_1_code (1 : Nat) (Option.none : Option Jvm.ClassFile.FieldType)) ∈ lw_R := zR (zk_2 _ (List.mem_of_getElem? (i := 231) rfl)) rfl
theorem k2_232 : (Jvm.Cond.methodLink "ChanceArena$Scales" (3 : Nat) ({ cls := "java/lang/Object", name := "<init>", desc := "()V" } : Jvm.MethodName)) ∈ lw_R := zR (zk_2 _ (List.mem_of_getElem? (i := 232) rfl)) rfl
theorem k2_233 : (Jvm.Cond.classLink "ChanceArena$Scales" (9 : Nat) "ChanceArena$Natural") ∈ lw_R := zR (zk_2 _ (List.mem_of_getElem? (i := 233) rfl)) rfl
theorem k2_234 : (Jvm.Cond.instantiable "ChanceArena$Natural" (2 : Nat)) ∈ lw_R := zR (zk_2 _ (List.mem_of_getElem? (i := 234) rfl)) rfl
theorem k2_235 : (Jvm.Cond.methodLinkNest "ChanceArena$Scales" (11 : Nat) ({ cls := "ChanceArena$Natural", name := "<init>", desc := "()V" } : Jvm.MethodName) "ChanceArena") ∈ lw_R := zR (zk_2 _ (List.mem_of_getElem? (i := 235) rfl)) rfl
theorem k2_236 : (Jvm.Cond.instanceMethod ({ cls := "ChanceArena$Natural", name := "<init>", desc := "()V" } : Jvm.MethodName)) ∈ lw_R := zR (zk_2 _ (List.mem_of_getElem? (i := 236) rfl)) rfl
theorem k2_237 : (Jvm.Cond.code ({ cls := "ChanceArena$Natural", name := "<init>", desc := "()V" } : Jvm.MethodName) prog_6_method_1_code (1 : Nat) (Option.none : Option Jvm.ClassFile.FieldType)) ∈ lw_R := zR (zk_2 _ (List.mem_of_getElem? (i := 237) rfl)) rfl
theorem k2_238 : (Jvm.Cond.methodLink "ChanceArena$Natural" (3 : Nat) ({ cls := "java/lang/Object", name := "<init>", desc := "()V" } : Jvm.MethodName)) ∈ lw_R := zR (zk_2 _ (List.mem_of_getElem? (i := 238) rfl)) rfl
theorem k2_239 : (Jvm.Cond.fieldLink "ChanceArena$Natural" (9 : Nat) "ChanceArena$Natural" "limbs" "[I") ∈ lw_R := zR (zk_2 _ (List.mem_of_getElem? (i := 239) rfl)) rfl
theorem k3_0 : (Jvm.Cond.fieldLink "ChanceArena$Scales" (61 : Nat) "ChanceArena$Natural" "limbs" "[I") ∈ lw_R := zR (zk_3 _ (List.mem_of_getElem? (i := 0) rfl)) rfl
theorem k3_1 : (Jvm.Cond.fieldLink "ChanceArena$Natural" (13 : Nat) "ChanceArena$Natural" "size" "I") ∈ lw_R := zR (zk_3 _ (List.mem_of_getElem? (i := 1) rfl)) rfl
theorem k3_2 : (Jvm.Cond.fieldLink "ChanceArena$Scales" (57 : Nat) "ChanceArena$Natural" "size" "I") ∈ lw_R := zR (zk_3 _ (List.mem_of_getElem? (i := 2) rfl)) rfl
theorem k3_3 : (Jvm.Cond.fieldLink "ChanceArena$Solver" (245 : Nat) "ChanceArena$Natural" "size" "I") ∈ lw_R := zR (zk_3 _ (List.mem_of_getElem? (i := 3) rfl)) rfl
theorem k3_4 : (Jvm.Cond.fieldLink "ChanceArena" (268 : Nat) "ChanceArena$Natural" "size" "I") ∈ lw_R := zR (zk_3 _ (List.mem_of_getElem? (i := 4) rfl)) rfl
theorem k3_10 : (Jvm.Cond.classLink "ChanceArena$Scales" (43 : Nat) "ChanceArena$Fraction") ∈ lw_R := zR (zk_3 _ (List.mem_of_getElem? (i := 10) rfl)) rfl
theorem k3_11 : (Jvm.Cond.instantiable "ChanceArena$Fraction" (3 : Nat)) ∈ lw_R := zR (zk_3 _ (List.mem_of_getElem? (i := 11) rfl)) rfl
theorem k3_12 : (Jvm.Cond.methodLinkNest "ChanceArena$Scales" (45 : Nat) ({ cls := "ChanceArena$Fraction", name := "<init>", desc := "()V" } : Jvm.MethodName) "ChanceArena") ∈ lw_R := zR (zk_3 _ (List.mem_of_getElem? (i := 12) rfl)) rfl
theorem k3_13 : (Jvm.Cond.instanceMethod ({ cls := "ChanceArena$Fraction", name := "<init>", desc := "()V" } : Jvm.MethodName)) ∈ lw_R := zR (zk_3 _ (List.mem_of_getElem? (i := 13) rfl)) rfl
theorem k3_14 : (Jvm.Cond.code ({ cls := "ChanceArena$Fraction", name := "<init>", desc := "()V" } : Jvm.MethodName) prog_2_method_1_code (1 : Nat) (Option.none : Option Jvm.ClassFile.FieldType)) ∈ lw_R := zR (zk_3 _ (List.mem_of_getElem? (i := 14) rfl)) rfl
theorem k3_15 : (Jvm.Cond.methodLink "ChanceArena$Fraction" (1 : Nat) ({ cls := "java/lang/Object", name := "<init>", desc := "()V" } : Jvm.MethodName)) ∈ lw_R := zR (zk_3 _ (List.mem_of_getElem? (i := 15) rfl)) rfl
theorem k3_16 : (Jvm.Cond.classLink "ChanceArena$Fraction" (7 : Nat) "ChanceArena$Natural") ∈ lw_R := zR (zk_3 _ (List.mem_of_getElem? (i := 16) rfl)) rfl
theorem k3_17 : (Jvm.Cond.methodLinkNest "ChanceArena$Fraction" (9 : Nat) ({ cls := "ChanceArena$Natural", name := "<init>", desc := "()V" } : Jvm.MethodName) "ChanceArena") ∈ lw_R := zR (zk_3 _ (List.mem_of_getElem? (i := 17) rfl)) rfl
theorem k3_18 : (Jvm.Cond.fieldLink "ChanceArena$Fraction" (10 : Nat) "ChanceArena$Fraction" "above" "LChanceArena$Natural;") ∈ lw_R := zR (zk_3 _ (List.mem_of_getElem? (i := 18) rfl)) rfl
theorem k3_19 : (Jvm.Cond.fieldLink "ChanceArena$Scales" (118 : Nat) "ChanceArena$Fraction" "above" "LChanceArena$Natural;") ∈ lw_R := zR (zk_3 _ (List.mem_of_getElem? (i := 19) rfl)) rfl
theorem k3_20 : (Jvm.Cond.fieldLink "ChanceArena$Solver" (173 : Nat) "ChanceArena$Fraction" "above" "LChanceArena$Natural;") ∈ lw_R := zR (zk_3 _ (List.mem_of_getElem? (i := 20) rfl)) rfl
theorem k3_21 : (Jvm.Cond.fieldLink "ChanceArena" (248 : Nat) "ChanceArena$Fraction" "above" "LChanceArena$Natural;") ∈ lw_R := zR (zk_3 _ (List.mem_of_getElem? (i := 21) rfl)) rfl
theorem k3_22 : (Jvm.Cond.fieldLink "ChanceArena$Fraction" (16 : Nat) "ChanceArena$Fraction" "below" "LChanceArena$Natural;") ∈ lw_R := zR (zk_3 _ (List.mem_of_getElem? (i := 22) rfl)) rfl
theorem k3_23 : (Jvm.Cond.fieldLink "ChanceArena$Scales" (108 : Nat) "ChanceArena$Fraction" "below" "LChanceArena$Natural;") ∈ lw_R := zR (zk_3 _ (List.mem_of_getElem? (i := 23) rfl)) rfl
theorem k3_24 : (Jvm.Cond.fieldLink "ChanceArena$Solver" (187 : Nat) "ChanceArena$Fraction" "below" "LChanceArena$Natural;") ∈ lw_R := zR (zk_3 _ (List.mem_of_getElem? (i := 24) rfl)) rfl
theorem k3_25 : (Jvm.Cond.fieldLink "ChanceArena" (255 : Nat) "ChanceArena$Fraction" "below" "LChanceArena$Natural;") ∈ lw_R := zR (zk_3 _ (List.mem_of_getElem? (i := 25) rfl)) rfl
theorem k3_26 : (Jvm.Cond.fieldLink "ChanceArena$Fraction" (19 : Nat) "ChanceArena$Fraction" "times" "I") ∈ lw_R := zR (zk_3 _ (List.mem_of_getElem? (i := 26) rfl)) rfl
theorem k3_27 : (Jvm.Cond.fieldLink "ChanceArena$Scales" (111 : Nat) "ChanceArena$Fraction" "times" "I") ∈ lw_R := zR (zk_3 _ (List.mem_of_getElem? (i := 27) rfl)) rfl
theorem k3_35 : (Jvm.Cond.arrayClass Jvm.ClassFile.FieldType.long) ∈ lw_R := zR (zk_3 _ (List.mem_of_getElem? (i := 35) rfl)) rfl
theorem k3_36 : (Jvm.Cond.fieldLink "ChanceArena$Scales" (12 : Nat) "ChanceArena$Scales" "left" "LChanceArena$Natural;") ∈ lw_R := zR (zk_3 _ (List.mem_of_getElem? (i := 36) rfl)) rfl
theorem k3_37 : (Jvm.Cond.fieldLink "ChanceArena$Scales" (18 : Nat) "ChanceArena$Scales" "right" "LChanceArena$Natural;") ∈ lw_R := zR (zk_3 _ (List.mem_of_getElem? (i := 37) rfl)) rfl
theorem k3_38 : (Jvm.Cond.fieldLink "ChanceArena$Scales" (21 : Nat) "ChanceArena$Scales" "quotient" "LChanceArena$Natural;") ∈ lw_R := zR (zk_3 _ (List.mem_of_getElem? (i := 38) rfl)) rfl
theorem k3_39 : (Jvm.Cond.fieldLink "ChanceArena$Scales" (24 : Nat) "ChanceArena$Scales" "scaled" "LChanceArena$Natural;") ∈ lw_R := zR (zk_3 _ (List.mem_of_getElem? (i := 39) rfl)) rfl
theorem k3_40 : (Jvm.Cond.fieldLink "ChanceArena$Scales" (27 : Nat) "ChanceArena$Scales" "part" "LChanceArena$Natural;") ∈ lw_R := zR (zk_3 _ (List.mem_of_getElem? (i := 40) rfl)) rfl
theorem k3_41 : (Jvm.Cond.fieldLink "ChanceArena$Scales" (30 : Nat) "ChanceArena$Scales" "product" "LChanceArena$Natural;") ∈ lw_R := zR (zk_3 _ (List.mem_of_getElem? (i := 41) rfl)) rfl
theorem k3_42 : (Jvm.Cond.fieldLink "ChanceArena$Scales" (33 : Nat) "ChanceArena$Scales" "factors" "[J") ∈ lw_R := zR (zk_3 _ (List.mem_of_getElem? (i := 42) rfl)) rfl
theorem k3_43 : (Jvm.Cond.fieldLink "ChanceArena$Scales" (37 : Nat) "ChanceArena$Scales" "sumPart" "LChanceArena$Natural;") ∈ lw_R := zR (zk_3 _ (List.mem_of_getElem? (i := 43) rfl)) rfl
theorem k3_44 : (Jvm.Cond.fieldLink "ChanceArena$Scales" (40 : Nat) "ChanceArena$Scales" "termPart" "LChanceArena$Natural;") ∈ lw_R := zR (zk_3 _ (List.mem_of_getElem? (i := 44) rfl)) rfl
theorem k3_45 : (Jvm.Cond.fieldLink "ChanceArena$Scales" (46 : Nat) "ChanceArena$Scales" "best" "LChanceArena$Fraction;") ∈ lw_R := zR (zk_3 _ (List.mem_of_getElem? (i := 45) rfl)) rfl
theorem k3_46 : (Jvm.Cond.fieldLink "ChanceArena$Scales" (50 : Nat) "ChanceArena$Scales" "trial" "LChanceArena$Fraction;") ∈ lw_R := zR (zk_3 _ (List.mem_of_getElem? (i := 46) rfl)) rfl
theorem k3_70 : (Jvm.Cond.classLink "ChanceArena$Solver" (25 : Nat) "ChanceArena$Residues") ∈ lw_R := zR (zk_3 _ (List.mem_of_getElem? (i := 70) rfl)) rfl
theorem k3_71 : (Jvm.Cond.instantiable "ChanceArena$Residues" (7 : Nat)) ∈ lw_R := zR (zk_3 _ (List.mem_of_getElem? (i := 71) rfl)) rfl
theorem k3_72 : (Jvm.Cond.methodLink "ChanceArena$Solver" (27 : Nat) ({ cls := "ChanceArena$Residues", name := "<init>", desc := "()V" } : Jvm.MethodName)) ∈ lw_R := zR (zk_3 _ (List.mem_of_getElem? (i := 72) rfl)) rfl
theorem k3_73 : (Jvm.Cond.instanceMethod ({ cls := "ChanceArena$Residues", name := "<init>", desc := "()V" } : Jvm.MethodName)) ∈ lw_R := zR (zk_3 _ (List.mem_of_getElem? (i := 73) rfl)) rfl
theorem k3_74 : (Jvm.Cond.code ({ cls := "ChanceArena$Residues", name := "<init>", desc := "()V" } : Jvm.MethodName) prog_8_method_1_code (2 : Nat) (Option.none : Option Jvm.ClassFile.FieldType)) ∈ lw_R := zR (zk_3 _ (List.mem_of_getElem? (i := 74) rfl)) rfl
theorem k3_75 : (Jvm.Cond.methodLink "ChanceArena$Residues" (3 : Nat) ({ cls := "java/lang/Object", name := "<init>", desc := "()V" } : Jvm.MethodName)) ∈ lw_R := zR (zk_3 _ (List.mem_of_getElem? (i := 75) rfl)) rfl
theorem k3_76 : (Jvm.Cond.classLink "ChanceArena$Residues" (15 : Nat) "ChanceArena$Natural") ∈ lw_R := zR (zk_3 _ (List.mem_of_getElem? (i := 76) rfl)) rfl
theorem k3_77 : (Jvm.Cond.arrayOver (Jvm.ClassFile.FieldType.object "ChanceArena$Natural")) ∈ lw_R := zR (zk_3 _ (List.mem_of_getElem? (i := 77) rfl)) rfl
theorem k3_78 : (Jvm.Cond.methodLinkNest "ChanceArena$Residues" (33 : Nat) ({ cls := "ChanceArena$Natural", name := "<init>", desc := "()V" } : Jvm.MethodName) "ChanceArena") ∈ lw_R := zR (zk_3 _ (List.mem_of_getElem? (i := 78) rfl)) rfl
theorem k3_79 : (Jvm.Cond.fieldLink "ChanceArena$Residues" (11 : Nat) "ChanceArena$Residues" "entries" "[I") ∈ lw_R := zR (zk_3 _ (List.mem_of_getElem? (i := 79) rfl)) rfl
theorem k3_80 : (Jvm.Cond.fieldLink "ChanceArena$Solver" (159 : Nat) "ChanceArena$Residues" "entries" "[I") ∈ lw_R := zR (zk_3 _ (List.mem_of_getElem? (i := 80) rfl)) rfl
theorem k3_81 : (Jvm.Cond.fieldLink "ChanceArena$Residues" (17 : Nat) "ChanceArena$Residues" "results" "[LChanceArena$Natural;") ∈ lw_R := zR (zk_3 _ (List.mem_of_getElem? (i := 81) rfl)) rfl
theorem k3_82 : (Jvm.Cond.fieldLink "ChanceArena$Solver" (177 : Nat) "ChanceArena$Residues" "results" "[LChanceArena$Natural;") ∈ lw_R := zR (zk_3 _ (List.mem_of_getElem? (i := 82) rfl)) rfl
theorem k3_83 : (Jvm.Cond.fieldLink "ChanceArena$Residues" (21 : Nat) "ChanceArena$Residues" "work" "[I") ∈ lw_R := zR (zk_3 _ (List.mem_of_getElem? (i := 83) rfl)) rfl
theorem k3_84 : (Jvm.Cond.fieldLink "ChanceArena$Residues" (24 : Nat) "ChanceArena$Residues" "inverses" "[I") ∈ lw_R := zR (zk_3 _ (List.mem_of_getElem? (i := 84) rfl)) rfl
theorem k3_85 : (Jvm.Cond.fieldLink "ChanceArena$Residues" (27 : Nat) "ChanceArena$Residues" "columns" "[I") ∈ lw_R := zR (zk_3 _ (List.mem_of_getElem? (i := 85) rfl)) rfl
theorem k3_86 : (Jvm.Cond.fieldLink "ChanceArena$Residues" (30 : Nat) "ChanceArena$Residues" "residues" "[I") ∈ lw_R := zR (zk_3 _ (List.mem_of_getElem? (i := 86) rfl)) rfl
theorem k3_87 : (Jvm.Cond.fieldLink "ChanceArena$Residues" (34 : Nat) "ChanceArena$Residues" "modulus" "LChanceArena$Natural;") ∈ lw_R := zR (zk_3 _ (List.mem_of_getElem? (i := 87) rfl)) rfl
theorem k3_103 : (Jvm.Cond.classLink "ChanceArena$Solver" (57 : Nat) "ChanceArena$Fraction") ∈ lw_R := zR (zk_3 _ (List.mem_of_getElem? (i := 103) rfl)) rfl
theorem k3_104 : (Jvm.Cond.methodLinkNest "ChanceArena$Solver" (59 : Nat) ({ cls := "ChanceArena$Fraction", name := "<init>", desc := "()V" } : Jvm.MethodName) "ChanceArena") ∈ lw_R := zR (zk_3 _ (List.mem_of_getElem? (i := 104) rfl)) rfl
theorem k3_105 : (Jvm.Cond.fieldLink "ChanceArena$Solver" (12 : Nat) "ChanceArena$Solver" "scales" "LChanceArena$Scales;") ∈ lw_R := zR (zk_3 _ (List.mem_of_getElem? (i := 105) rfl)) rfl
theorem k3_106 : (Jvm.Cond.fieldLink "ChanceArena" (216 : Nat) "ChanceArena$Solver" "scales" "LChanceArena$Scales;") ∈ lw_R := zR (zk_3 _ (List.mem_of_getElem? (i := 106) rfl)) rfl
theorem k3_107 : (Jvm.Cond.fieldLink "ChanceArena$Solver" (18 : Nat) "ChanceArena$Solver" "ranks" "[I") ∈ lw_R := zR (zk_3 _ (List.mem_of_getElem? (i := 107) rfl)) rfl
theorem k3_108 : (Jvm.Cond.fieldLink "ChanceArena" (287 : Nat) "ChanceArena$Solver" "ranks" "[I") ∈ lw_R := zR (zk_3 _ (List.mem_of_getElem? (i := 108) rfl)) rfl
theorem k3_109 : (Jvm.Cond.fieldLink "ChanceArena$Solver" (22 : Nat) "ChanceArena$Solver" "choices" "[I") ∈ lw_R := zR (zk_3 _ (List.mem_of_getElem? (i := 109) rfl)) rfl
theorem k3_110 : (Jvm.Cond.fieldLink "ChanceArena" (229 : Nat) "ChanceArena$Solver" "choices" "[I") ∈ lw_R := zR (zk_3 _ (List.mem_of_getElem? (i := 110) rfl)) rfl
theorem k3_111 : (Jvm.Cond.fieldLink "ChanceArena$Solver" (64 : Nat) "ChanceArena$Solver" "game" "LChanceArena$Game;") ∈ lw_R := zR (zk_3 _ (List.mem_of_getElem? (i := 111) rfl)) rfl
theorem k3_112 : (Jvm.Cond.fieldLink "ChanceArena$Solver" (28 : Nat) "ChanceArena$Solver" "system" "LChanceArena$Residues;") ∈ lw_R := zR (zk_3 _ (List.mem_of_getElem? (i := 112) rfl)) rfl
theorem k3_113 : (Jvm.Cond.fieldLink "ChanceArena$Solver" (32 : Nat) "ChanceArena$Solver" "low" "[I") ∈ lw_R := zR (zk_3 _ (List.mem_of_getElem? (i := 113) rfl)) rfl
theorem k3_114 : (Jvm.Cond.fieldLink "ChanceArena$Solver" (35 : Nat) "ChanceArena$Solver" "high" "[I") ∈ lw_R := zR (zk_3 _ (List.mem_of_getElem? (i := 114) rfl)) rfl
theorem k3_115 : (Jvm.Cond.fieldLink "ChanceArena$Solver" (38 : Nat) "ChanceArena$Solver" "slot" "[I") ∈ lw_R := zR (zk_3 _ (List.mem_of_getElem? (i := 115) rfl)) rfl
theorem k3_116 : (Jvm.Cond.fieldLink "ChanceArena$Solver" (41 : Nat) "ChanceArena$Solver" "unknown" "[I") ∈ lw_R := zR (zk_3 _ (List.mem_of_getElem? (i := 116) rfl)) rfl
theorem k3_117 : (Jvm.Cond.fieldLink "ChanceArena$Solver" (44 : Nat) "ChanceArena$Solver" "chosen" "[I") ∈ lw_R := zR (zk_3 _ (List.mem_of_getElem? (i := 117) rfl)) rfl
theorem k3_118 : (Jvm.Cond.fieldLink "ChanceArena$Solver" (122 : Nat) "ChanceArena$Solver" "unknowns" "I") ∈ lw_R := zR (zk_3 _ (List.mem_of_getElem? (i := 118) rfl)) rfl
theorem k3_119 : (Jvm.Cond.fieldLink "ChanceArena$Solver" (47 : Nat) "ChanceArena$Solver" "others" "[I") ∈ lw_R := zR (zk_3 _ (List.mem_of_getElem? (i := 119) rfl)) rfl
theorem k3_120 : (Jvm.Cond.fieldLink "ChanceArena$Solver" (198 : Nat) "ChanceArena$Solver" "otherCount" "I") ∈ lw_R := zR (zk_3 _ (List.mem_of_getElem? (i := 120) rfl)) rfl
theorem k3_121 : (Jvm.Cond.fieldLink "ChanceArena$Solver" (208 : Nat) "ChanceArena$Solver" "minOthers" "I") ∈ lw_R := zR (zk_3 _ (List.mem_of_getElem? (i := 121) rfl)) rfl
theorem k3_122 : (Jvm.Cond.fieldLink "ChanceArena$Solver" (201 : Nat) "ChanceArena$Solver" "drawn" "J") ∈ lw_R := zR (zk_3 _ (List.mem_of_getElem? (i := 122) rfl)) rfl
theorem k3_123 : (Jvm.Cond.fieldLink "ChanceArena$Solver" (50 : Nat) "ChanceArena$Solver" "attains" "[Z") ∈ lw_R := zR (zk_3 _ (List.mem_of_getElem? (i := 123) rfl)) rfl
theorem k3_124 : (Jvm.Cond.fieldLink "ChanceArena$Solver" (54 : Nat) "ChanceArena$Solver" "probe" "[I") ∈ lw_R := zR (zk_3 _ (List.mem_of_getElem? (i := 124) rfl)) rfl
theorem k3_125 : (Jvm.Cond.fieldLink "ChanceArena$Solver" (60 : Nat) "ChanceArena$Solver" "worth" "LChanceArena$Fraction;") ∈ lw_R := zR (zk_3 _ (List.mem_of_getElem? (i := 125) rfl)) rfl
theorem k3_163 : (Jvm.Cond.classLink "ChanceArena" (67 : Nat) "ChanceArena$Fractions") ∈ lw_R := zR (zk_3 _ (List.mem_of_getElem? (i := 163) rfl)) rfl
theorem k3_164 : (Jvm.Cond.instantiable "ChanceArena$Fractions" (2 : Nat)) ∈ lw_R := zR (zk_3 _ (List.mem_of_getElem? (i := 164) rfl)) rfl
theorem k3_165 : (Jvm.Cond.methodLinkNest "ChanceArena" (69 : Nat) ({ cls := "ChanceArena$Fractions", name := "<init>", desc := "()V" } : Jvm.MethodName) "ChanceArena") ∈ lw_R := zR (zk_3 _ (List.mem_of_getElem? (i := 165) rfl)) rfl
theorem k3_166 : (Jvm.Cond.instanceMethod ({ cls := "ChanceArena$Fractions", name := "<init>", desc := "()V" } : Jvm.MethodName)) ∈ lw_R := zR (zk_3 _ (List.mem_of_getElem? (i := 166) rfl)) rfl
theorem k3_167 : (Jvm.Cond.code ({ cls := "ChanceArena$Fractions", name := "<init>", desc := "()V" } : Jvm.MethodName) prog_3_method_1_code (1 : Nat) (Option.none : Option Jvm.ClassFile.FieldType)) ∈ lw_R := zR (zk_3 _ (List.mem_of_getElem? (i := 167) rfl)) rfl
theorem k3_168 : (Jvm.Cond.methodLink "ChanceArena$Fractions" (3 : Nat) ({ cls := "java/lang/Object", name := "<init>", desc := "()V" } : Jvm.MethodName)) ∈ lw_R := zR (zk_3 _ (List.mem_of_getElem? (i := 168) rfl)) rfl
theorem k3_169 : (Jvm.Cond.classLink "ChanceArena$Fractions" (9 : Nat) "ChanceArena$Fraction") ∈ lw_R := zR (zk_3 _ (List.mem_of_getElem? (i := 169) rfl)) rfl
theorem k3_170 : (Jvm.Cond.arrayOver (Jvm.ClassFile.FieldType.object "ChanceArena$Fraction")) ∈ lw_R := zR (zk_3 _ (List.mem_of_getElem? (i := 170) rfl)) rfl
theorem k3_171 : (Jvm.Cond.fieldLink "ChanceArena$Fractions" (11 : Nat) "ChanceArena$Fractions" "rows" "[LChanceArena$Fraction;") ∈ lw_R := zR (zk_3 _ (List.mem_of_getElem? (i := 171) rfl)) rfl
theorem k3_172 : (Jvm.Cond.fieldLink "ChanceArena$Scales" (143 : Nat) "ChanceArena$Fractions" "rows" "[LChanceArena$Fraction;") ∈ lw_R := zR (zk_3 _ (List.mem_of_getElem? (i := 172) rfl)) rfl
theorem k3_173 : (Jvm.Cond.fieldLink "ChanceArena$Solver" (169 : Nat) "ChanceArena$Fractions" "rows" "[LChanceArena$Fraction;") ∈ lw_R := zR (zk_3 _ (List.mem_of_getElem? (i := 173) rfl)) rfl
theorem k3_174 : (Jvm.Cond.fieldLink "ChanceArena" (262 : Nat) "ChanceArena$Fractions" "rows" "[LChanceArena$Fraction;") ∈ lw_R := zR (zk_3 _ (List.mem_of_getElem? (i := 174) rfl)) rfl
theorem k3_175 : (Jvm.Cond.fieldLink "ChanceArena$Fractions" (17 : Nat) "ChanceArena$Fractions" "known" "Z") ∈ lw_R := zR (zk_3 _ (List.mem_of_getElem? (i := 175) rfl)) rfl
theorem k3_176 : (Jvm.Cond.fieldLink "ChanceArena$Solver" (68 : Nat) "ChanceArena$Fractions" "known" "Z") ∈ lw_R := zR (zk_3 _ (List.mem_of_getElem? (i := 176) rfl)) rfl
theorem k3_177 : (Jvm.Cond.fieldLink "ChanceArena" (137 : Nat) "ChanceArena$Fractions" "known" "Z") ∈ lw_R := zR (zk_3 _ (List.mem_of_getElem? (i := 177) rfl)) rfl
theorem k3_183 : (Jvm.Cond.classLink "ChanceArena" (83 : Nat) "ChanceArena$Natural") ∈ lw_R := zR (zk_3 _ (List.mem_of_getElem? (i := 183) rfl)) rfl
theorem k3_184 : (Jvm.Cond.methodLinkNest "ChanceArena" (85 : Nat) ({ cls := "ChanceArena$Natural", name := "<init>", desc := "()V" } : Jvm.MethodName) "ChanceArena") ∈ lw_R := zR (zk_3 _ (List.mem_of_getElem? (i := 184) rfl)) rfl
theorem k3_185 : (Jvm.Cond.classLink "ChanceArena" (90 : Nat) "ChanceArena$Fraction") ∈ lw_R := zR (zk_3 _ (List.mem_of_getElem? (i := 185) rfl)) rfl
theorem k3_186 : (Jvm.Cond.methodLinkNest "ChanceArena" (92 : Nat) ({ cls := "ChanceArena$Fraction", name := "<init>", desc := "()V" } : Jvm.MethodName) "ChanceArena") ∈ lw_R := zR (zk_3 _ (List.mem_of_getElem? (i := 186) rfl)) rfl
theorem k3_187 : (Jvm.Cond.fieldLink "ChanceArena" (7 : Nat) "ChanceArena" "tape" "[C") ∈ lw_R := zR (zk_3 _ (List.mem_of_getElem? (i := 187) rfl)) rfl
theorem k3_188 : (Jvm.Cond.fieldLink "ChanceArena" (13 : Nat) "ChanceArena" "tapeLength" "I") ∈ lw_R := zR (zk_3 _ (List.mem_of_getElem? (i := 188) rfl)) rfl
theorem k3_189 : (Jvm.Cond.fieldLink "ChanceArena" (20 : Nat) "ChanceArena" "words" "LChanceArena$Words;") ∈ lw_R := zR (zk_3 _ (List.mem_of_getElem? (i := 189) rfl)) rfl
theorem k3_190 : (Jvm.Cond.fieldLink "ChanceArena" (27 : Nat) "ChanceArena" "reader" "LChanceArena$TextReader;") ∈ lw_R := zR (zk_3 _ (List.mem_of_getElem? (i := 190) rfl)) rfl
theorem k3_191 : (Jvm.Cond.fieldLink "ChanceArena" (34 : Nat) "ChanceArena" "text" "LChanceArena$Program;") ∈ lw_R := zR (zk_3 _ (List.mem_of_getElem? (i := 191) rfl)) rfl
theorem k3_192 : (Jvm.Cond.fieldLink "ChanceArena" (38 : Nat) "ChanceArena" "spare" "LChanceArena$Program;") ∈ lw_R := zR (zk_3 _ (List.mem_of_getElem? (i := 192) rfl)) rfl
theorem k3_193 : (Jvm.Cond.fieldLink "ChanceArena" (41 : Nat) "ChanceArena" "hasText" "Z") ∈ lw_R := zR (zk_3 _ (List.mem_of_getElem? (i := 193) rfl)) rfl
theorem k3_194 : (Jvm.Cond.fieldLink "ChanceArena" (45 : Nat) "ChanceArena" "faultPlace" "I") ∈ lw_R := zR (zk_3 _ (List.mem_of_getElem? (i := 194) rfl)) rfl
theorem k3_195 : (Jvm.Cond.fieldLink "ChanceArena" (48 : Nat) "ChanceArena" "faultState" "I") ∈ lw_R := zR (zk_3 _ (List.mem_of_getElem? (i := 195) rfl)) rfl
theorem k3_196 : (Jvm.Cond.fieldLink "ChanceArena" (54 : Nat) "ChanceArena" "game" "LChanceArena$Game;") ∈ lw_R := zR (zk_3 _ (List.mem_of_getElem? (i := 196) rfl)) rfl
theorem k3_197 : (Jvm.Cond.fieldLink "ChanceArena" (63 : Nat) "ChanceArena" "solver" "LChanceArena$Solver;") ∈ lw_R := zR (zk_3 _ (List.mem_of_getElem? (i := 197) rfl)) rfl
theorem k3_198 : (Jvm.Cond.fieldLink "ChanceArena" (70 : Nat) "ChanceArena" "values" "LChanceArena$Fractions;") ∈ lw_R := zR (zk_3 _ (List.mem_of_getElem? (i := 198) rfl)) rfl
theorem k3_199 : (Jvm.Cond.fieldLink "ChanceArena" (74 : Nat) "ChanceArena" "withins" "LChanceArena$Fractions;") ∈ lw_R := zR (zk_3 _ (List.mem_of_getElem? (i := 199) rfl)) rfl
theorem k3_200 : (Jvm.Cond.fieldLink "ChanceArena" (77 : Nat) "ChanceArena" "earlier" "LChanceArena$Fractions;") ∈ lw_R := zR (zk_3 _ (List.mem_of_getElem? (i := 200) rfl)) rfl
theorem k3_201 : (Jvm.Cond.fieldLink "ChanceArena" (80 : Nat) "ChanceArena" "judged" "LChanceArena$Fractions;") ∈ lw_R := zR (zk_3 _ (List.mem_of_getElem? (i := 201) rfl)) rfl
theorem k3_202 : (Jvm.Cond.fieldLink "ChanceArena" (86 : Nat) "ChanceArena" "number" "LChanceArena$Natural;") ∈ lw_R := zR (zk_3 _ (List.mem_of_getElem? (i := 202) rfl)) rfl
theorem k3_203 : (Jvm.Cond.fieldLink "ChanceArena" (93 : Nat) "ChanceArena" "shown" "LChanceArena$Fraction;") ∈ lw_R := zR (zk_3 _ (List.mem_of_getElem? (i := 203) rfl)) rfl
theorem k3_204 : (Jvm.Cond.fieldLink "ChanceArena" (97 : Nat) "ChanceArena" "printed" "[C") ∈ lw_R := zR (zk_3 _ (List.mem_of_getElem? (i := 204) rfl)) rfl
theorem k3_205 : (Jvm.Cond.fieldLink "ChanceArena" (100 : Nat) "ChanceArena" "printedLength" "I") ∈ lw_R := zR (zk_3 _ (List.mem_of_getElem? (i := 205) rfl)) rfl
theorem k4_9 : (Jvm.Cond.methodLink "ChanceArena" (103 : Nat) ({ cls := "ChanceArena", name := "growTape", desc := "()[C" } : Jvm.MethodName)) ∈ lw_R := zR (zk_4 _ (List.mem_of_getElem? (i := 9) rfl)) rfl
theorem k4_11 : (Jvm.Cond.instanceMethod ({ cls := "ChanceArena", name := "growTape", desc := "()[C" } : Jvm.MethodName)) ∈ lw_R := zR (zk_4 _ (List.mem_of_getElem? (i := 11) rfl)) rfl
theorem k4_12 : (Jvm.Cond.code ({ cls := "ChanceArena", name := "growTape", desc := "()[C" } : Jvm.MethodName) prog_1_method_3_code (2 : Nat) (Option.some (Jvm.ClassFile.FieldType.array Jvm.ClassFile.FieldType.char))) ∈ lw_R := zR (zk_4 _ (List.mem_of_getElem? (i := 12) rfl)) rfl
theorem k4_13 : (Jvm.Cond.methodLink "ChanceArena" (111 : Nat) ({ cls := "java/lang/System", name := "arraycopy", desc := "(Ljava/lang/Object;ILjava/lang/Object;II)V" } : Jvm.MethodName)) ∈ lw_R := zR (zk_4 _ (List.mem_of_getElem? (i := 13) rfl)) rfl
theorem k4_14 : (Jvm.Cond.static ({ cls := "java/lang/System", name := "arraycopy", desc := "(Ljava/lang/Object;ILjava/lang/Object;II)V" } : Jvm.MethodName)) ∈ lw_R := zR (zk_4 _ (List.mem_of_getElem? (i := 14) rfl)) rfl
theorem k4_15 : (Jvm.Cond.native ({ cls := "java/lang/System", name := "arraycopy", desc := "(Ljava/lang/Object;ILjava/lang/Object;II)V" } : Jvm.MethodName)) ∈ lw_R := zR (zk_4 _ (List.mem_of_getElem? (i := 15) rfl)) rfl
theorem k4_16 : (Jvm.Cond.methodLink "ChanceArena" (107 : Nat) ({ cls := "ChanceArena", name := "putFour", desc := "(I)V" } : Jvm.MethodName)) ∈ lw_R := zR (zk_4 _ (List.mem_of_getElem? (i := 16) rfl)) rfl
theorem k4_18 : (Jvm.Cond.instanceMethod ({ cls := "ChanceArena", name := "putFour", desc := "(I)V" } : Jvm.MethodName)) ∈ lw_R := zR (zk_4 _ (List.mem_of_getElem? (i := 18) rfl)) rfl
theorem k4_19 : (Jvm.Cond.code ({ cls := "ChanceArena", name := "putFour", desc := "(I)V" } : Jvm.MethodName) prog_1_method_4_code (3 : Nat) (Option.none : Option Jvm.ClassFile.FieldType)) ∈ lw_R := zR (zk_4 _ (List.mem_of_getElem? (i := 19) rfl)) rfl
theorem k4_24 : (Jvm.Cond.methodLink "ChanceArena" (120 : Nat) ({ cls := "ChanceArena$Words", name := "split", desc := "([CI)V" } : Jvm.MethodName)) ∈ lw_R := zR (zk_4 _ (List.mem_of_getElem? (i := 24) rfl)) rfl
theorem k4_25 : (Jvm.Cond.instanceMethod ({ cls := "ChanceArena$Words", name := "split", desc := "([CI)V" } : Jvm.MethodName)) ∈ lw_R := zR (zk_4 _ (List.mem_of_getElem? (i := 25) rfl)) rfl
theorem k4_26 : (Jvm.Cond.selects "ChanceArena$Words" ({ cls := "ChanceArena$Words", name := "split", desc := "([CI)V" } : Jvm.MethodName) ({ cls := "ChanceArena$Words", name := "split", desc := "([CI)V" } : Jvm.MethodName)) ∈ lw_R := zR (zk_4 _ (List.mem_of_getElem? (i := 26) rfl)) rfl
end
