section
/-! A shorter dress for contracts: the array classes are fixed (tA), a contract's world comes in and goes out as a list of cells, the frame is joined in one row. -/
section Base
variable {p : Program} {l : Launch} {e : Env} {R : Room} {s : State} {m : MethodId} {args : Array Value} {below : List Frame} {meth : Method} {c : Code} {H : Heap} {locs : List Loc} {cells slots : Nat} {Q : State → Prop}
/-- the array classes -/
abbrev zT (tA : Nat → ClassId) : List (ClassId × FieldType) := [(tA 0, .int), (tA 1, .boolean), (tA 2, .char), (tA 3, .long), (tA 4, .object "ChanceArena$Natural"), (tA 5, .object "ChanceArena$Fraction"), (tA 6, .object "ChanceArenaModel$Fraction")]
end Base
end
section
section
def dcB (c : ByteArray) (p : Nat) : Nat := if h : p < c.size then (c[p]'h).toNat else 256
theorem dcU1 {c : ByteArray} {p b : Nat} (h : dcB c p = b) (hb : b < 256) : (Jvm.ClassFile.Reader.u1 : Jvm.ClassFile.Decoder Nat) c p = .ok (b, p + 1) := by
  unfold dcB at h
  by_cases hp : p < c.size
  · rw [dif_pos hp] at h
    subst h
    simp [Jvm.ClassFile.Reader.u1, hp, MonadReader.read, readThe, MonadReaderOf.read, ReaderT.read, get, getThe, MonadStateOf.get, StateT.get, set, MonadStateOf.set, StateT.set, bind, ReaderT.bind, StateT.bind, Except.bind, Pure.pure, ReaderT.pure, StateT.pure, Except.pure, liftM, monadLift, MonadLift.monadLift, StateT.lift]
  · rw [dif_neg hp] at h; omega
theorem dcU2 {c : ByteArray} {p a b : Nat} (h : dcB c p = a) (ha : a < 256) (h2 : dcB c (p + 1) = b) (hb : b < 256) : (Jvm.ClassFile.Reader.u2 : Jvm.ClassFile.Decoder Nat) c p = .ok (a * 256 + b, p + 2) := by
  have e1 := dcU1 h ha
  have e2 := dcU1 h2 hb
  simp [Jvm.ClassFile.Reader.u2, bind, ReaderT.bind, StateT.bind, Except.bind, e1, e2, Pure.pure, ReaderT.pure, StateT.pure, Except.pure]
theorem dcK {c : ByteArray} {pc b n : Nat} {i : Jvm.ClassFile.Instr} {f : Nat → Jvm.ClassFile.Decoder Jvm.ClassFile.Instr} (h : dcB c pc = b) (hb : b < 256) (hf : Jvm.ClassFile.Decoder.instr pc = (Jvm.ClassFile.Reader.u1 >>= f)) (hi : f b c (pc + 1) = .ok (i, pc + n)) : decode c pc = .ok (i, n) := by
  have hu := dcU1 h hb
  unfold decode Jvm.ClassFile.Reader.runAt
  rw [hf]
  simp [ReaderT.run, StateT.run, bind, ReaderT.bind, StateT.bind, Except.bind, hu, hi, Pure.pure, Except.pure]
def dcL (c : ByteArray) (p : Nat) : List UInt8 := c.data.toList.drop p
theorem dcL_B {c : ByteArray} {p : Nat} {a : UInt8} {l : List UInt8} (h : dcL c p = a :: l) : dcB c p = a.toNat := by
  have h1 : c.data.toList[p]? = some a := by
    have := congrArg (fun x : List UInt8 => x[0]?) h
    simpa [dcL, List.getElem?_drop] using this
  obtain ⟨hp, e⟩ := List.getElem?_eq_some_iff.1 h1
  unfold dcB
  have hs : p < c.size := hp
  rw [dif_pos hs]
  have e2 : c[p]'hs = a := e
  rw [e2]
theorem dcL_T {c : ByteArray} {p : Nat} {a : UInt8} {l : List UInt8} (h : dcL c p = a :: l) : dcL c (p + 1) = l := by
  have e := congrArg List.tail h
  unfold dcL at *
  rw [List.tail_drop] at e
  exact e
theorem dcL_1 {c : ByteArray} {p : Nat} {a : UInt8} {l : List UInt8} (h : dcL c p = a :: l) : (Jvm.ClassFile.Reader.u1 : Jvm.ClassFile.Decoder Nat) c p = .ok (a.toNat, p + 1) := dcU1 (dcL_B h) a.toNat_lt
theorem dcL_2 {c : ByteArray} {p : Nat} {a b : UInt8} {l : List UInt8} (h : dcL c p = a :: b :: l) : (Jvm.ClassFile.Reader.u2 : Jvm.ClassFile.Decoder Nat) c p = .ok (a.toNat * 256 + b.toNat, p + 2) := dcU2 (dcL_B h) a.toNat_lt (dcL_B (dcL_T h)) b.toNat_lt
def dcq0 (c : ByteArray) (pc k : Nat) : Bool := match dcL c pc with | a :: _ => Nat.beq a.toNat k | _ => false
theorem dcK0 {c : ByteArray} {pc b : Nat} {i : Jvm.ClassFile.Instr} {f : Nat → Jvm.ClassFile.Decoder Jvm.ClassFile.Instr} (h : dcq0 c pc b = true) (hb : b < 256) (hf : Jvm.ClassFile.Decoder.instr pc = (Jvm.ClassFile.Reader.u1 >>= f)) (hg : f b = Pure.pure i) : decode c pc = .ok (i, 1) := by
  unfold dcq0 at h
  split at h
  · rename_i a l e
    exact dcK ((dcL_B e).trans (Nat.eq_of_beq_eq_true h)) hb hf (by rw [hg]; rfl)
  · cases h
def dcq1 (c : ByteArray) (pc k i : Nat) : Bool := match dcL c pc with | a :: d :: _ => Nat.beq a.toNat k && Nat.beq d.toNat i | _ => false
theorem dcK1 {c : ByteArray} {pc b i : Nat} (g : Nat → Jvm.ClassFile.Instr) {f : Nat → Jvm.ClassFile.Decoder Jvm.ClassFile.Instr} (h : dcq1 c pc b i = true) (hb : b < 256) (hf : Jvm.ClassFile.Decoder.instr pc = (Jvm.ClassFile.Reader.u1 >>= f)) (hg : f b = (Jvm.ClassFile.Reader.u1 >>= fun x => Pure.pure (g x))) : decode c pc = .ok (g i, 2) := by
  unfold dcq1 at h
  split at h
  · rename_i a d l e
    rw [Bool.and_eq_true] at h
    have e1 := dcL_1 (dcL_T e)
    rw [Nat.eq_of_beq_eq_true h.2] at e1
    refine dcK ((dcL_B e).trans (Nat.eq_of_beq_eq_true h.1)) hb hf ?_
    rw [hg]
    simp [bind, ReaderT.bind, StateT.bind, Except.bind, Pure.pure, ReaderT.pure, StateT.pure, Except.pure, e1]
  · cases h
def dcs1 (c : ByteArray) (pc k : Nat) (o : Int) : Bool := match dcL c pc with | a :: d :: _ => Nat.beq a.toNat k && decide (Jvm.ClassFile.Reader.signed 8 d.toNat = o) | _ => false
theorem dcKs1 {c : ByteArray} {pc b : Nat} {o : Int} (g : Int → Jvm.ClassFile.Instr) {f : Nat → Jvm.ClassFile.Decoder Jvm.ClassFile.Instr} (h : dcs1 c pc b o = true) (hb : b < 256) (hf : Jvm.ClassFile.Decoder.instr pc = (Jvm.ClassFile.Reader.u1 >>= f)) (hg : f b = (Jvm.ClassFile.Reader.s1 >>= fun x => Pure.pure (g x))) : decode c pc = .ok (g o, 2) := by
  unfold dcs1 at h
  split at h
  · rename_i a d l e
    rw [Bool.and_eq_true] at h
    have e1 := dcL_1 (dcL_T e)
    have h3 := of_decide_eq_true h.2
    refine dcK ((dcL_B e).trans (Nat.eq_of_beq_eq_true h.1)) hb hf ?_
    rw [hg]
    simp [Jvm.ClassFile.Reader.s1, Functor.map, StateT.map, bind, ReaderT.bind, StateT.bind, Except.bind, Pure.pure, ReaderT.pure, StateT.pure, Except.pure, e1, h3]
  · cases h
def dcq2 (c : ByteArray) (pc k i : Nat) : Bool := match dcL c pc with | a :: d :: e :: _ => Nat.beq a.toNat k && Nat.beq (d.toNat * 256 + e.toNat) i | _ => false
theorem dcK2 {c : ByteArray} {pc b i : Nat} (g : Nat → Jvm.ClassFile.Instr) {f : Nat → Jvm.ClassFile.Decoder Jvm.ClassFile.Instr} (h : dcq2 c pc b i = true) (hb : b < 256) (hf : Jvm.ClassFile.Decoder.instr pc = (Jvm.ClassFile.Reader.u1 >>= f)) (hg : f b = (Jvm.ClassFile.Reader.u2 >>= fun x => Pure.pure (g x))) : decode c pc = .ok (g i, 3) := by
  unfold dcq2 at h
  split at h
  · rename_i a d d2 l e
    rw [Bool.and_eq_true] at h
    have e1 := dcL_2 (dcL_T e)
    rw [Nat.eq_of_beq_eq_true h.2] at e1
    refine dcK ((dcL_B e).trans (Nat.eq_of_beq_eq_true h.1)) hb hf ?_
    rw [hg]
    simp [bind, ReaderT.bind, StateT.bind, Except.bind, Pure.pure, ReaderT.pure, StateT.pure, Except.pure, e1]
  · cases h
def dcs2 (c : ByteArray) (pc k : Nat) (o : Int) : Bool := match dcL c pc with | a :: d :: e :: _ => Nat.beq a.toNat k && decide (Jvm.ClassFile.Reader.signed 16 (d.toNat * 256 + e.toNat) = o) | _ => false
theorem dcKs2 {c : ByteArray} {pc b : Nat} {o : Int} (g : Int → Jvm.ClassFile.Instr) {f : Nat → Jvm.ClassFile.Decoder Jvm.ClassFile.Instr} (h : dcs2 c pc b o = true) (hb : b < 256) (hf : Jvm.ClassFile.Decoder.instr pc = (Jvm.ClassFile.Reader.u1 >>= f)) (hg : f b = (Jvm.ClassFile.Reader.s2 >>= fun x => Pure.pure (g x))) : decode c pc = .ok (g o, 3) := by
  unfold dcs2 at h
  split at h
  · rename_i a d d2 l e
    rw [Bool.and_eq_true] at h
    have e1 := dcL_2 (dcL_T e)
    have h3 := of_decide_eq_true h.2
    refine dcK ((dcL_B e).trans (Nat.eq_of_beq_eq_true h.1)) hb hf ?_
    rw [hg]
    have e5 : (Jvm.ClassFile.Reader.s2 : Jvm.ClassFile.Decoder Int) c (pc + 1) = .ok (o, pc + 3) := by
      simp [Jvm.ClassFile.Reader.s2, Functor.map, StateT.map, bind, ReaderT.bind, StateT.bind, Except.bind, Pure.pure, ReaderT.pure, StateT.pure, Except.pure, e1, h3]
    simp [bind, ReaderT.bind, StateT.bind, Except.bind, Pure.pure, ReaderT.pure, StateT.pure, Except.pure, e5]
  · cases h
set_option maxRecDepth 100000 in
theorem dc9_1 {c : ByteArray} {pc : Nat} (h : dcq0 c pc 1 = true) : decode c pc = .ok (.aconst_null, 1) := dcK0 h (by decide) rfl rfl
set_option maxRecDepth 100000 in
theorem dc9_2 {c : ByteArray} {pc : Nat} (h : dcq0 c pc 2 = true) : decode c pc = .ok (.iconst (-1), 1) := dcK0 h (by decide) rfl rfl
set_option maxRecDepth 100000 in
theorem dc9_3 {c : ByteArray} {pc : Nat} (h : dcq0 c pc 3 = true) : decode c pc = .ok (.iconst 0, 1) := dcK0 h (by decide) rfl rfl
set_option maxRecDepth 100000 in
theorem dc9_4 {c : ByteArray} {pc : Nat} (h : dcq0 c pc 4 = true) : decode c pc = .ok (.iconst 1, 1) := dcK0 h (by decide) rfl rfl
set_option maxRecDepth 100000 in
theorem dc9_5 {c : ByteArray} {pc : Nat} (h : dcq0 c pc 5 = true) : decode c pc = .ok (.iconst 2, 1) := dcK0 h (by decide) rfl rfl
set_option maxRecDepth 100000 in
theorem dc9_6 {c : ByteArray} {pc : Nat} (h : dcq0 c pc 6 = true) : decode c pc = .ok (.iconst 3, 1) := dcK0 h (by decide) rfl rfl
set_option maxRecDepth 100000 in
theorem dc9_7 {c : ByteArray} {pc : Nat} (h : dcq0 c pc 7 = true) : decode c pc = .ok (.iconst 4, 1) := dcK0 h (by decide) rfl rfl
set_option maxRecDepth 100000 in
theorem dc9_8 {c : ByteArray} {pc : Nat} (h : dcq0 c pc 8 = true) : decode c pc = .ok (.iconst 5, 1) := dcK0 h (by decide) rfl rfl
set_option maxRecDepth 100000 in
theorem dc9_9 {c : ByteArray} {pc : Nat} (h : dcq0 c pc 9 = true) : decode c pc = .ok (.lconst 0, 1) := dcK0 h (by decide) rfl rfl
set_option maxRecDepth 100000 in
theorem dc9_10 {c : ByteArray} {pc : Nat} (h : dcq0 c pc 10 = true) : decode c pc = .ok (.lconst 1, 1) := dcK0 h (by decide) rfl rfl
set_option maxRecDepth 100000 in
theorem dc9_16 {c : ByteArray} {pc : Nat} {o : Int} (h : dcs1 c pc 16 o = true) : decode c pc = .ok (.bipush o, 2) := dcKs1 .bipush h (by decide) rfl rfl
set_option maxRecDepth 100000 in
theorem dc9_17 {c : ByteArray} {pc : Nat} {o : Int} (h : dcs2 c pc 17 o = true) : decode c pc = .ok (.sipush o, 3) := dcKs2 (fun x => .sipush x) h (by decide) rfl rfl
set_option maxRecDepth 100000 in
theorem dc9_18 {c : ByteArray} {pc : Nat} {i : Nat} (h : dcq1 c pc 18 i = true) : decode c pc = .ok (.ldc i, 2) := dcK1 .ldc h (by decide) rfl rfl
set_option maxRecDepth 100000 in
theorem dc9_19 {c : ByteArray} {pc : Nat} {i : Nat} (h : dcq2 c pc 19 i = true) : decode c pc = .ok (.ldc_w i, 3) := dcK2 .ldc_w h (by decide) rfl rfl
set_option maxRecDepth 100000 in
theorem dc9_20 {c : ByteArray} {pc : Nat} {i : Nat} (h : dcq2 c pc 20 i = true) : decode c pc = .ok (.ldc2_w i, 3) := dcK2 .ldc2_w h (by decide) rfl rfl
set_option maxRecDepth 100000 in
theorem dc9_21 {c : ByteArray} {pc : Nat} {i : Nat} (h : dcq1 c pc 21 i = true) : decode c pc = .ok (.iload i, 2) := dcK1 .iload h (by decide) rfl rfl
set_option maxRecDepth 100000 in
theorem dc9_22 {c : ByteArray} {pc : Nat} {i : Nat} (h : dcq1 c pc 22 i = true) : decode c pc = .ok (.lload i, 2) := dcK1 .lload h (by decide) rfl rfl
set_option maxRecDepth 100000 in
theorem dc9_25 {c : ByteArray} {pc : Nat} {i : Nat} (h : dcq1 c pc 25 i = true) : decode c pc = .ok (.aload i, 2) := dcK1 .aload h (by decide) rfl rfl
set_option maxRecDepth 100000 in
theorem dc9_26 {c : ByteArray} {pc : Nat} (h : dcq0 c pc 26 = true) : decode c pc = .ok (.iload_n 0, 1) := dcK0 h (by decide) rfl rfl
set_option maxRecDepth 100000 in
theorem dc9_27 {c : ByteArray} {pc : Nat} (h : dcq0 c pc 27 = true) : decode c pc = .ok (.iload_n 1, 1) := dcK0 h (by decide) rfl rfl
set_option maxRecDepth 100000 in
theorem dc9_28 {c : ByteArray} {pc : Nat} (h : dcq0 c pc 28 = true) : decode c pc = .ok (.iload_n 2, 1) := dcK0 h (by decide) rfl rfl
set_option maxRecDepth 100000 in
theorem dc9_29 {c : ByteArray} {pc : Nat} (h : dcq0 c pc 29 = true) : decode c pc = .ok (.iload_n 3, 1) := dcK0 h (by decide) rfl rfl
set_option maxRecDepth 100000 in
theorem dc9_30 {c : ByteArray} {pc : Nat} (h : dcq0 c pc 30 = true) : decode c pc = .ok (.lload_n 0, 1) := dcK0 h (by decide) rfl rfl
set_option maxRecDepth 100000 in
theorem dc9_31 {c : ByteArray} {pc : Nat} (h : dcq0 c pc 31 = true) : decode c pc = .ok (.lload_n 1, 1) := dcK0 h (by decide) rfl rfl
set_option maxRecDepth 100000 in
theorem dc9_32 {c : ByteArray} {pc : Nat} (h : dcq0 c pc 32 = true) : decode c pc = .ok (.lload_n 2, 1) := dcK0 h (by decide) rfl rfl
set_option maxRecDepth 100000 in
theorem dc9_33 {c : ByteArray} {pc : Nat} (h : dcq0 c pc 33 = true) : decode c pc = .ok (.lload_n 3, 1) := dcK0 h (by decide) rfl rfl
set_option maxRecDepth 100000 in
theorem dc9_42 {c : ByteArray} {pc : Nat} (h : dcq0 c pc 42 = true) : decode c pc = .ok (.aload_n 0, 1) := dcK0 h (by decide) rfl rfl
set_option maxRecDepth 100000 in
theorem dc9_43 {c : ByteArray} {pc : Nat} (h : dcq0 c pc 43 = true) : decode c pc = .ok (.aload_n 1, 1) := dcK0 h (by decide) rfl rfl
set_option maxRecDepth 100000 in
theorem dc9_44 {c : ByteArray} {pc : Nat} (h : dcq0 c pc 44 = true) : decode c pc = .ok (.aload_n 2, 1) := dcK0 h (by decide) rfl rfl
set_option maxRecDepth 100000 in
theorem dc9_45 {c : ByteArray} {pc : Nat} (h : dcq0 c pc 45 = true) : decode c pc = .ok (.aload_n 3, 1) := dcK0 h (by decide) rfl rfl
set_option maxRecDepth 100000 in
theorem dc9_46 {c : ByteArray} {pc : Nat} (h : dcq0 c pc 46 = true) : decode c pc = .ok (.iaload, 1) := dcK0 h (by decide) rfl rfl
set_option maxRecDepth 100000 in
theorem dc9_47 {c : ByteArray} {pc : Nat} (h : dcq0 c pc 47 = true) : decode c pc = .ok (.laload, 1) := dcK0 h (by decide) rfl rfl
set_option maxRecDepth 100000 in
theorem dc9_50 {c : ByteArray} {pc : Nat} (h : dcq0 c pc 50 = true) : decode c pc = .ok (.aaload, 1) := dcK0 h (by decide) rfl rfl
set_option maxRecDepth 100000 in
theorem dc9_51 {c : ByteArray} {pc : Nat} (h : dcq0 c pc 51 = true) : decode c pc = .ok (.baload, 1) := dcK0 h (by decide) rfl rfl
set_option maxRecDepth 100000 in
theorem dc9_52 {c : ByteArray} {pc : Nat} (h : dcq0 c pc 52 = true) : decode c pc = .ok (.caload, 1) := dcK0 h (by decide) rfl rfl
set_option maxRecDepth 100000 in
theorem dc9_54 {c : ByteArray} {pc : Nat} {i : Nat} (h : dcq1 c pc 54 i = true) : decode c pc = .ok (.istore i, 2) := dcK1 .istore h (by decide) rfl rfl
set_option maxRecDepth 100000 in
theorem dc9_55 {c : ByteArray} {pc : Nat} {i : Nat} (h : dcq1 c pc 55 i = true) : decode c pc = .ok (.lstore i, 2) := dcK1 .lstore h (by decide) rfl rfl
set_option maxRecDepth 100000 in
theorem dc9_58 {c : ByteArray} {pc : Nat} {i : Nat} (h : dcq1 c pc 58 i = true) : decode c pc = .ok (.astore i, 2) := dcK1 .astore h (by decide) rfl rfl
set_option maxRecDepth 100000 in
theorem dc9_59 {c : ByteArray} {pc : Nat} (h : dcq0 c pc 59 = true) : decode c pc = .ok (.istore_n 0, 1) := dcK0 h (by decide) rfl rfl
set_option maxRecDepth 100000 in
theorem dc9_60 {c : ByteArray} {pc : Nat} (h : dcq0 c pc 60 = true) : decode c pc = .ok (.istore_n 1, 1) := dcK0 h (by decide) rfl rfl
set_option maxRecDepth 100000 in
theorem dc9_61 {c : ByteArray} {pc : Nat} (h : dcq0 c pc 61 = true) : decode c pc = .ok (.istore_n 2, 1) := dcK0 h (by decide) rfl rfl
set_option maxRecDepth 100000 in
theorem dc9_62 {c : ByteArray} {pc : Nat} (h : dcq0 c pc 62 = true) : decode c pc = .ok (.istore_n 3, 1) := dcK0 h (by decide) rfl rfl
set_option maxRecDepth 100000 in
theorem dc9_65 {c : ByteArray} {pc : Nat} (h : dcq0 c pc 65 = true) : decode c pc = .ok (.lstore_n 2, 1) := dcK0 h (by decide) rfl rfl
set_option maxRecDepth 100000 in
theorem dc9_66 {c : ByteArray} {pc : Nat} (h : dcq0 c pc 66 = true) : decode c pc = .ok (.lstore_n 3, 1) := dcK0 h (by decide) rfl rfl
set_option maxRecDepth 100000 in
theorem dc9_76 {c : ByteArray} {pc : Nat} (h : dcq0 c pc 76 = true) : decode c pc = .ok (.astore_n 1, 1) := dcK0 h (by decide) rfl rfl
set_option maxRecDepth 100000 in
theorem dc9_77 {c : ByteArray} {pc : Nat} (h : dcq0 c pc 77 = true) : decode c pc = .ok (.astore_n 2, 1) := dcK0 h (by decide) rfl rfl
set_option maxRecDepth 100000 in
theorem dc9_78 {c : ByteArray} {pc : Nat} (h : dcq0 c pc 78 = true) : decode c pc = .ok (.astore_n 3, 1) := dcK0 h (by decide) rfl rfl
set_option maxRecDepth 100000 in
theorem dc9_79 {c : ByteArray} {pc : Nat} (h : dcq0 c pc 79 = true) : decode c pc = .ok (.iastore, 1) := dcK0 h (by decide) rfl rfl
set_option maxRecDepth 100000 in
theorem dc9_80 {c : ByteArray} {pc : Nat} (h : dcq0 c pc 80 = true) : decode c pc = .ok (.lastore, 1) := dcK0 h (by decide) rfl rfl
set_option maxRecDepth 100000 in
theorem dc9_83 {c : ByteArray} {pc : Nat} (h : dcq0 c pc 83 = true) : decode c pc = .ok (.aastore, 1) := dcK0 h (by decide) rfl rfl
set_option maxRecDepth 100000 in
theorem dc9_84 {c : ByteArray} {pc : Nat} (h : dcq0 c pc 84 = true) : decode c pc = .ok (.bastore, 1) := dcK0 h (by decide) rfl rfl
set_option maxRecDepth 100000 in
theorem dc9_85 {c : ByteArray} {pc : Nat} (h : dcq0 c pc 85 = true) : decode c pc = .ok (.castore, 1) := dcK0 h (by decide) rfl rfl
set_option maxRecDepth 100000 in
theorem dc9_87 {c : ByteArray} {pc : Nat} (h : dcq0 c pc 87 = true) : decode c pc = .ok (.pop, 1) := dcK0 h (by decide) rfl rfl
set_option maxRecDepth 100000 in
theorem dc9_89 {c : ByteArray} {pc : Nat} (h : dcq0 c pc 89 = true) : decode c pc = .ok (.dup, 1) := dcK0 h (by decide) rfl rfl
set_option maxRecDepth 100000 in
theorem dc9_90 {c : ByteArray} {pc : Nat} (h : dcq0 c pc 90 = true) : decode c pc = .ok (.dup_x1, 1) := dcK0 h (by decide) rfl rfl
set_option maxRecDepth 100000 in
theorem dc9_92 {c : ByteArray} {pc : Nat} (h : dcq0 c pc 92 = true) : decode c pc = .ok (.dup2, 1) := dcK0 h (by decide) rfl rfl
set_option maxRecDepth 100000 in
theorem dc9_96 {c : ByteArray} {pc : Nat} (h : dcq0 c pc 96 = true) : decode c pc = .ok (.iadd, 1) := dcK0 h (by decide) rfl rfl
set_option maxRecDepth 100000 in
theorem dc9_97 {c : ByteArray} {pc : Nat} (h : dcq0 c pc 97 = true) : decode c pc = .ok (.ladd, 1) := dcK0 h (by decide) rfl rfl
set_option maxRecDepth 100000 in
theorem dc9_100 {c : ByteArray} {pc : Nat} (h : dcq0 c pc 100 = true) : decode c pc = .ok (.isub, 1) := dcK0 h (by decide) rfl rfl
set_option maxRecDepth 100000 in
theorem dc9_101 {c : ByteArray} {pc : Nat} (h : dcq0 c pc 101 = true) : decode c pc = .ok (.lsub, 1) := dcK0 h (by decide) rfl rfl
set_option maxRecDepth 100000 in
theorem dc9_104 {c : ByteArray} {pc : Nat} (h : dcq0 c pc 104 = true) : decode c pc = .ok (.imul, 1) := dcK0 h (by decide) rfl rfl
set_option maxRecDepth 100000 in
theorem dc9_105 {c : ByteArray} {pc : Nat} (h : dcq0 c pc 105 = true) : decode c pc = .ok (.lmul, 1) := dcK0 h (by decide) rfl rfl
set_option maxRecDepth 100000 in
theorem dc9_108 {c : ByteArray} {pc : Nat} (h : dcq0 c pc 108 = true) : decode c pc = .ok (.idiv, 1) := dcK0 h (by decide) rfl rfl
set_option maxRecDepth 100000 in
theorem dc9_109 {c : ByteArray} {pc : Nat} (h : dcq0 c pc 109 = true) : decode c pc = .ok (.ldiv, 1) := dcK0 h (by decide) rfl rfl
set_option maxRecDepth 100000 in
theorem dc9_112 {c : ByteArray} {pc : Nat} (h : dcq0 c pc 112 = true) : decode c pc = .ok (.irem, 1) := dcK0 h (by decide) rfl rfl
set_option maxRecDepth 100000 in
theorem dc9_113 {c : ByteArray} {pc : Nat} (h : dcq0 c pc 113 = true) : decode c pc = .ok (.lrem, 1) := dcK0 h (by decide) rfl rfl
set_option maxRecDepth 100000 in
theorem dc9_116 {c : ByteArray} {pc : Nat} (h : dcq0 c pc 116 = true) : decode c pc = .ok (.ineg, 1) := dcK0 h (by decide) rfl rfl
set_option maxRecDepth 100000 in
theorem dc9_117 {c : ByteArray} {pc : Nat} (h : dcq0 c pc 117 = true) : decode c pc = .ok (.lneg, 1) := dcK0 h (by decide) rfl rfl
set_option maxRecDepth 100000 in
theorem dc9_120 {c : ByteArray} {pc : Nat} (h : dcq0 c pc 120 = true) : decode c pc = .ok (.ishl, 1) := dcK0 h (by decide) rfl rfl
set_option maxRecDepth 100000 in
theorem dc9_121 {c : ByteArray} {pc : Nat} (h : dcq0 c pc 121 = true) : decode c pc = .ok (.lshl, 1) := dcK0 h (by decide) rfl rfl
set_option maxRecDepth 100000 in
theorem dc9_122 {c : ByteArray} {pc : Nat} (h : dcq0 c pc 122 = true) : decode c pc = .ok (.ishr, 1) := dcK0 h (by decide) rfl rfl
set_option maxRecDepth 100000 in
theorem dc9_123 {c : ByteArray} {pc : Nat} (h : dcq0 c pc 123 = true) : decode c pc = .ok (.lshr, 1) := dcK0 h (by decide) rfl rfl
set_option maxRecDepth 100000 in
theorem dc9_124 {c : ByteArray} {pc : Nat} (h : dcq0 c pc 124 = true) : decode c pc = .ok (.iushr, 1) := dcK0 h (by decide) rfl rfl
set_option maxRecDepth 100000 in
theorem dc9_125 {c : ByteArray} {pc : Nat} (h : dcq0 c pc 125 = true) : decode c pc = .ok (.lushr, 1) := dcK0 h (by decide) rfl rfl
set_option maxRecDepth 100000 in
theorem dc9_126 {c : ByteArray} {pc : Nat} (h : dcq0 c pc 126 = true) : decode c pc = .ok (.iand, 1) := dcK0 h (by decide) rfl rfl
set_option maxRecDepth 100000 in
theorem dc9_127 {c : ByteArray} {pc : Nat} (h : dcq0 c pc 127 = true) : decode c pc = .ok (.land, 1) := dcK0 h (by decide) rfl rfl
set_option maxRecDepth 100000 in
theorem dc9_128 {c : ByteArray} {pc : Nat} (h : dcq0 c pc 128 = true) : decode c pc = .ok (.ior, 1) := dcK0 h (by decide) rfl rfl
set_option maxRecDepth 100000 in
theorem dc9_130 {c : ByteArray} {pc : Nat} (h : dcq0 c pc 130 = true) : decode c pc = .ok (.ixor, 1) := dcK0 h (by decide) rfl rfl
set_option maxRecDepth 100000 in
theorem dc9_133 {c : ByteArray} {pc : Nat} (h : dcq0 c pc 133 = true) : decode c pc = .ok (.i2l, 1) := dcK0 h (by decide) rfl rfl
set_option maxRecDepth 100000 in
theorem dc9_136 {c : ByteArray} {pc : Nat} (h : dcq0 c pc 136 = true) : decode c pc = .ok (.l2i, 1) := dcK0 h (by decide) rfl rfl
set_option maxRecDepth 100000 in
theorem dc9_146 {c : ByteArray} {pc : Nat} (h : dcq0 c pc 146 = true) : decode c pc = .ok (.i2c, 1) := dcK0 h (by decide) rfl rfl
set_option maxRecDepth 100000 in
theorem dc9_148 {c : ByteArray} {pc : Nat} (h : dcq0 c pc 148 = true) : decode c pc = .ok (.lcmp, 1) := dcK0 h (by decide) rfl rfl
set_option maxRecDepth 100000 in
theorem dc9_153 {c : ByteArray} {pc : Nat} {o : Int} (h : dcs2 c pc 153 o = true) : decode c pc = .ok (.ifCond .eq o, 3) := dcKs2 (fun x => .ifCond .eq x) h (by decide) rfl rfl
set_option maxRecDepth 100000 in
theorem dc9_154 {c : ByteArray} {pc : Nat} {o : Int} (h : dcs2 c pc 154 o = true) : decode c pc = .ok (.ifCond .ne o, 3) := dcKs2 (fun x => .ifCond .ne x) h (by decide) rfl rfl
set_option maxRecDepth 100000 in
theorem dc9_155 {c : ByteArray} {pc : Nat} {o : Int} (h : dcs2 c pc 155 o = true) : decode c pc = .ok (.ifCond .lt o, 3) := dcKs2 (fun x => .ifCond .lt x) h (by decide) rfl rfl
set_option maxRecDepth 100000 in
theorem dc9_156 {c : ByteArray} {pc : Nat} {o : Int} (h : dcs2 c pc 156 o = true) : decode c pc = .ok (.ifCond .ge o, 3) := dcKs2 (fun x => .ifCond .ge x) h (by decide) rfl rfl
set_option maxRecDepth 100000 in
theorem dc9_157 {c : ByteArray} {pc : Nat} {o : Int} (h : dcs2 c pc 157 o = true) : decode c pc = .ok (.ifCond .gt o, 3) := dcKs2 (fun x => .ifCond .gt x) h (by decide) rfl rfl
set_option maxRecDepth 100000 in
theorem dc9_158 {c : ByteArray} {pc : Nat} {o : Int} (h : dcs2 c pc 158 o = true) : decode c pc = .ok (.ifCond .le o, 3) := dcKs2 (fun x => .ifCond .le x) h (by decide) rfl rfl
set_option maxRecDepth 100000 in
theorem dc9_159 {c : ByteArray} {pc : Nat} {o : Int} (h : dcs2 c pc 159 o = true) : decode c pc = .ok (.if_icmp .eq o, 3) := dcKs2 (fun x => .if_icmp .eq x) h (by decide) rfl rfl
set_option maxRecDepth 100000 in
theorem dc9_160 {c : ByteArray} {pc : Nat} {o : Int} (h : dcs2 c pc 160 o = true) : decode c pc = .ok (.if_icmp .ne o, 3) := dcKs2 (fun x => .if_icmp .ne x) h (by decide) rfl rfl
set_option maxRecDepth 100000 in
theorem dc9_161 {c : ByteArray} {pc : Nat} {o : Int} (h : dcs2 c pc 161 o = true) : decode c pc = .ok (.if_icmp .lt o, 3) := dcKs2 (fun x => .if_icmp .lt x) h (by decide) rfl rfl
set_option maxRecDepth 100000 in
theorem dc9_162 {c : ByteArray} {pc : Nat} {o : Int} (h : dcs2 c pc 162 o = true) : decode c pc = .ok (.if_icmp .ge o, 3) := dcKs2 (fun x => .if_icmp .ge x) h (by decide) rfl rfl
set_option maxRecDepth 100000 in
theorem dc9_163 {c : ByteArray} {pc : Nat} {o : Int} (h : dcs2 c pc 163 o = true) : decode c pc = .ok (.if_icmp .gt o, 3) := dcKs2 (fun x => .if_icmp .gt x) h (by decide) rfl rfl
set_option maxRecDepth 100000 in
theorem dc9_164 {c : ByteArray} {pc : Nat} {o : Int} (h : dcs2 c pc 164 o = true) : decode c pc = .ok (.if_icmp .le o, 3) := dcKs2 (fun x => .if_icmp .le x) h (by decide) rfl rfl
set_option maxRecDepth 100000 in
theorem dc9_167 {c : ByteArray} {pc : Nat} {o : Int} (h : dcs2 c pc 167 o = true) : decode c pc = .ok (.goto o, 3) := dcKs2 (fun x => .goto x) h (by decide) rfl rfl
set_option maxRecDepth 100000 in
theorem dc9_172 {c : ByteArray} {pc : Nat} (h : dcq0 c pc 172 = true) : decode c pc = .ok (.ireturn, 1) := dcK0 h (by decide) rfl rfl
set_option maxRecDepth 100000 in
theorem dc9_173 {c : ByteArray} {pc : Nat} (h : dcq0 c pc 173 = true) : decode c pc = .ok (.lreturn, 1) := dcK0 h (by decide) rfl rfl
set_option maxRecDepth 100000 in
theorem dc9_176 {c : ByteArray} {pc : Nat} (h : dcq0 c pc 176 = true) : decode c pc = .ok (.areturn, 1) := dcK0 h (by decide) rfl rfl
set_option maxRecDepth 100000 in
theorem dc9_177 {c : ByteArray} {pc : Nat} (h : dcq0 c pc 177 = true) : decode c pc = .ok (.return_, 1) := dcK0 h (by decide) rfl rfl
set_option maxRecDepth 100000 in
theorem dc9_178 {c : ByteArray} {pc : Nat} {i : Nat} (h : dcq2 c pc 178 i = true) : decode c pc = .ok (.getstatic i, 3) := dcK2 .getstatic h (by decide) rfl rfl
set_option maxRecDepth 100000 in
theorem dc9_180 {c : ByteArray} {pc : Nat} {i : Nat} (h : dcq2 c pc 180 i = true) : decode c pc = .ok (.getfield i, 3) := dcK2 .getfield h (by decide) rfl rfl
set_option maxRecDepth 100000 in
theorem dc9_181 {c : ByteArray} {pc : Nat} {i : Nat} (h : dcq2 c pc 181 i = true) : decode c pc = .ok (.putfield i, 3) := dcK2 .putfield h (by decide) rfl rfl
set_option maxRecDepth 100000 in
theorem dc9_182 {c : ByteArray} {pc : Nat} {i : Nat} (h : dcq2 c pc 182 i = true) : decode c pc = .ok (.invokevirtual i, 3) := dcK2 .invokevirtual h (by decide) rfl rfl
set_option maxRecDepth 100000 in
theorem dc9_183 {c : ByteArray} {pc : Nat} {i : Nat} (h : dcq2 c pc 183 i = true) : decode c pc = .ok (.invokespecial i, 3) := dcK2 .invokespecial h (by decide) rfl rfl
set_option maxRecDepth 100000 in
theorem dc9_184 {c : ByteArray} {pc : Nat} {i : Nat} (h : dcq2 c pc 184 i = true) : decode c pc = .ok (.invokestatic i, 3) := dcK2 .invokestatic h (by decide) rfl rfl
set_option maxRecDepth 100000 in
theorem dc9_187 {c : ByteArray} {pc : Nat} {i : Nat} (h : dcq2 c pc 187 i = true) : decode c pc = .ok (.new i, 3) := dcK2 .new h (by decide) rfl rfl
set_option maxRecDepth 100000 in
theorem dc9_189 {c : ByteArray} {pc : Nat} {i : Nat} (h : dcq2 c pc 189 i = true) : decode c pc = .ok (.anewarray i, 3) := dcK2 .anewarray h (by decide) rfl rfl
set_option maxRecDepth 100000 in
theorem dc9_190 {c : ByteArray} {pc : Nat} (h : dcq0 c pc 190 = true) : decode c pc = .ok (.arraylength, 1) := dcK0 h (by decide) rfl rfl
set_option maxRecDepth 100000 in
theorem dc9_198 {c : ByteArray} {pc : Nat} {o : Int} (h : dcs2 c pc 198 o = true) : decode c pc = .ok (.ifnull o, 3) := dcKs2 (fun x => .ifnull x) h (by decide) rfl rfl
set_option maxRecDepth 100000 in
theorem dc9_199 {c : ByteArray} {pc : Nat} {o : Int} (h : dcs2 c pc 199 o = true) : decode c pc = .ok (.ifnonnull o, 3) := dcKs2 (fun x => .ifnonnull x) h (by decide) rfl rfl
end
end
section
/-! THE FLAT MACHINE: values are whole numbers and addresses, the heap is flat (kind, length, ints, longs, references by address and place); an exact run of a method is a proposition (mEv), and what a run must come to is asked of it backwards (mWm). -/
abbrev mV : Type := Int ⊕ Int ⊕ Nat ⊕ Option Nat
abbrev vi (x : Int) : mV := Sum.inl x
abbrev vl (x : Int) : mV := Sum.inr (Sum.inl x)
abbrev vr (a : Nat) : mV := Sum.inr (Sum.inr (Sum.inl a))
abbrev vd : mV := Sum.inr (Sum.inr (Sum.inr none))
/-- a reference to an old cell (a string, the law's array): it may be address 0 -/
abbrev vo (a : Nat) : mV := Sum.inr (Sum.inr (Sum.inr (some a)))
def mrv (a : Nat) : Value := if a = 0 then .null else .ref a
def mcv : mV → Value
  | .inl x => .int (Int32.ofInt x)
  | .inr (.inl x) => .long (Int64.ofInt x)
  | .inr (.inr (.inl a)) => mrv a
  | .inr (.inr (.inr none)) => .null
  | .inr (.inr (.inr (some a))) => .ref a
def mLive : mV → Bool
  | .inr (.inr (.inr none)) => false
  | _ => true
def mcat : mV → Nat
  | .inr (.inl _) => 2
  | _ => 1
theorem mcat_mcv (v : mV) : (mcv v).category = mcat v := by
  rcases v with x | x | a | u
  · rfl
  · rfl
  · show (mrv a).category = 1
    unfold mrv
    split <;> rfl
  · cases u <;> rfl
def i32 (x : Int) : Prop := -2147483648 ≤ x ∧ x < 2147483648
def i64 (x : Int) : Prop := -9223372036854775808 ≤ x ∧ x < 9223372036854775808
theorem i32_toInt {x : Int} (h : i32 x) : (Int32.ofInt x).toInt = x := by
  obtain ⟨h1, h2⟩ := h
  rw [Int32.toInt_ofInt, show Int32.size = 4294967296 from rfl]
  exact Int.bmod_eq_of_le (by omega) (by omega)
theorem i64_toInt {x : Int} (h : i64 x) : (Int64.ofInt x).toInt = x := by
  obtain ⟨h1, h2⟩ := h
  rw [Int64.toInt_ofInt, show Int64.size = 18446744073709551616 from rfl]
  exact Int.bmod_eq_of_le (by omega) (by omega)
theorem i32_lt {x y : Int} (hx : i32 x) (hy : i32 y) : Int32.ofInt x < Int32.ofInt y ↔ x < y := by
  rw [Int32.lt_iff_toInt_lt, i32_toInt hx, i32_toInt hy]
theorem i32_le {x y : Int} (hx : i32 x) (hy : i32 y) : Int32.ofInt x ≤ Int32.ofInt y ↔ x ≤ y := by
  rw [Int32.le_iff_toInt_le, i32_toInt hx, i32_toInt hy]
theorem i32_eq {x y : Int} (hx : i32 x) (hy : i32 y) : Int32.ofInt x = Int32.ofInt y ↔ x = y := by
  rw [← Int32.toInt_inj, i32_toInt hx, i32_toInt hy]
theorem i64_lt {x y : Int} (hx : i64 x) (hy : i64 y) : Int64.ofInt x < Int64.ofInt y ↔ x < y := by
  rw [Int64.lt_iff_toInt_lt, i64_toInt hx, i64_toInt hy]
theorem i64_eq {x y : Int} (hx : i64 x) (hy : i64 y) : Int64.ofInt x = Int64.ofInt y ↔ x = y := by
  rw [← Int64.toInt_inj, i64_toInt hx, i64_toInt hy]
theorem i32_clamp {x : Int} (h : i32 x) : (Int32.ofInt x).toNatClampNeg = x.toNat := by
  show (Int32.ofInt x).toInt.toNat = x.toNat
  rw [i32_toInt h]
theorem i32_0 : i32 0 := ⟨by decide, by decide⟩
theorem i32_lt0 {x : Int} (hx : i32 x) : Int32.ofInt x < 0 ↔ x < 0 := i32_lt hx i32_0
theorem i32_gt0 {x : Int} (hx : i32 x) : 0 < Int32.ofInt x ↔ 0 < x := i32_lt i32_0 hx
theorem i32_le0 {x : Int} (hx : i32 x) : Int32.ofInt x ≤ 0 ↔ x ≤ 0 := i32_le hx i32_0
theorem i32_ge0 {x : Int} (hx : i32 x) : 0 ≤ Int32.ofInt x ↔ 0 ≤ x := i32_le i32_0 hx
theorem i32_eq0 {x : Int} (hx : i32 x) : Int32.ofInt x = 0 ↔ x = 0 := i32_eq hx i32_0
/-- the index lies in an array of n places -/
theorem i32_in {x : Int} {n : Nat} (h : 0 ≤ x ∧ x < n) (hn : n < 2147483648) : ¬ (Int32.ofInt x < 0 ∨ n ≤ (Int32.ofInt x).toNatClampNeg) := by
  have hx : i32 x := ⟨by omega, by omega⟩
  rw [i32_lt0 hx, i32_clamp hx]
  omega
/-! the heap -/
abbrev mM : Type := (Nat → Nat) × (Nat → Nat) × (Nat → Nat → Int) × (Nat → Nat → Int) × (Nat → Nat → Nat) × Nat × Nat
def mK (M : mM) : Nat → Nat := M.1
def mN (M : mM) : Nat → Nat := M.2.1
def mI (M : mM) : Nat → Nat → Int := M.2.2.1
def mL (M : mM) : Nat → Nat → Int := M.2.2.2.1
def mR (M : mM) : Nat → Nat → Nat := M.2.2.2.2.1
def mZ (M : mM) : Nat := M.2.2.2.2.2.1
def mS (M : mM) : Nat := M.2.2.2.2.2.2
def up2 {α : Type} (f : Nat → Nat → α) (a j : Nat) (x : α) : Nat → Nat → α := fun b k => if b = a ∧ k = j then x else f b k
def mUI (M : mM) (a j : Nat) (x : Int) : mM := (mK M, mN M, up2 (mI M) a j x, mL M, mR M, mZ M, mS M)
def mUL (M : mM) (a j : Nat) (x : Int) : mM := (mK M, mN M, mI M, up2 (mL M) a j x, mR M, mZ M, mS M)
def mUR (M : mM) (a j : Nat) (x : Nat) : mM := (mK M, mN M, mI M, mL M, up2 (mR M) a j x, mZ M, mS M)
def mNew (M : mM) (k n c : Nat) : mM := (fun b => if b = mZ M then k else mK M b, fun b => if b = mZ M then n else mN M b, fun b j => if b = mZ M then 0 else mI M b j, fun b j => if b = mZ M then 0 else mL M b j, fun b j => if b = mZ M then 0 else mR M b j, mZ M + 1, mS M + c)
section Reads
variable (M : mM) (a j b k n c : Nat) (x : Int) (r : Nat)
theorem mK_UI : mK (mUI M a j x) = mK M := rfl
theorem mN_UI : mN (mUI M a j x) = mN M := rfl
theorem mI_UI : mI (mUI M a j x) b k = if b = a ∧ k = j then x else mI M b k := rfl
theorem mL_UI : mL (mUI M a j x) = mL M := rfl
theorem mR_UI : mR (mUI M a j x) = mR M := rfl
theorem mZ_UI : mZ (mUI M a j x) = mZ M := rfl
theorem mS_UI : mS (mUI M a j x) = mS M := rfl
theorem mL_UL : mL (mUL M a j x) b k = if b = a ∧ k = j then x else mL M b k := rfl
theorem mK_UR : mK (mUR M a j r) = mK M := rfl
theorem mN_UR : mN (mUR M a j r) = mN M := rfl
theorem mI_UR : mI (mUR M a j r) = mI M := rfl
theorem mL_UR : mL (mUR M a j r) = mL M := rfl
theorem mR_UR : mR (mUR M a j r) b k = if b = a ∧ k = j then r else mR M b k := rfl
theorem mZ_UR : mZ (mUR M a j r) = mZ M := rfl
theorem mS_UR : mS (mUR M a j r) = mS M := rfl
theorem mK_New : mK (mNew M k n c) b = if b = mZ M then k else mK M b := rfl
theorem mN_New : mN (mNew M k n c) b = if b = mZ M then n else mN M b := rfl
theorem mI_New : mI (mNew M k n c) b j = if b = mZ M then 0 else mI M b j := rfl
theorem mL_New : mL (mNew M k n c) b j = if b = mZ M then 0 else mL M b j := rfl
theorem mR_New : mR (mNew M k n c) b j = if b = mZ M then 0 else mR M b j := rfl
theorem mZ_New : mZ (mNew M k n c) = mZ M + 1 := rfl
theorem mS_New : mS (mNew M k n c) = mS M + c := rfl
end Reads
/-- all numbers of the heap are ints, or longs -/
def mOk (M : mM) : Prop := ∀ a j, i32 (mI M a j) ∧ i64 (mL M a j)
def fV (ty : FieldType) (M : mM) (a k : Nat) : Value := match ty with
  | .long => mcv (vl (mL M a k))
  | .object _ => mrv (mR M a k)
  | .array _ => mrv (mR M a k)
  | _ => mcv (vi (mI M a k))
def vwTy : List (Nat → FieldType) := [t_CA, t_Wo, t_TR, t_RR, t_Ma, t_Pr, t_Ga, t_So, t_Sc, t_Na, t_Fr, t_Re, t_Fs, t_MM, t_MN, t_MG, t_MS, t_MU, t_MF, t_MW]
def arTy : List FieldType := [.int, .boolean, .char, .long, .object "ChanceArena$Natural", .object "ChanceArena$Fraction", .object "ChanceArenaModel$Fraction"]
/-- launch, classes, array classes, the law's start, where its own cells begin -/
abbrev mG : Type := Launch × va_G × (Nat → ClassId) × State × Nat
def gL (G : mG) : Launch := G.1
def gD (G : mG) : va_G := G.2.1
def gA (G : mG) : Nat → ClassId := G.2.2.1
def gS (G : mG) : State := G.2.2.2.1
def gB (G : mG) : Nat := G.2.2.2.2
/-- the class's table of primes -/
def prL : List Int := [1073741789, 1073741783, 1073741741, 1073741723, 1073741719, 1073741717, 1073741689, 1073741671, 1073741663, 1073741651, 1073741621, 1073741567, 1073741561, 1073741527, 1073741503, 1073741477, 1073741467, 1073741441, 1073741419, 1073741399, 1073741387, 1073741381, 1073741371, 1073741329, 1073741311, 1073741309, 1073741287, 1073741237, 1073741213, 1073741197, 1073741189, 1073741173, 1073741101, 1073741077, 1073741047, 1073740963]
def mOwn (G : mG) : Addr → Prop := fun q => gB G ≤ q
def gPr (G : mG) : Prop := ∃ t : Nat, va_Z "ChanceArena$Residues" "PRIMES" "[I" (.ref t) (mOwn G) (gS G) (gS G).heap ∧ va_T .int t 36 (fun j => .int (Int32.ofInt (prL.getD j 0))) (mOwn G) (gS G) (gS G).heap
def mRepO (G : mG) (M : mM) (H : Heap) (a : Nat) : Prop := ∀ (c : Nat) (r : vw_C) (t : Nat → FieldType), mK M a = c + 1 → vwCl[c]? = some r → vwTy[c]? = some t → gB G ≤ a ∧ t_OB a ((gD G).1 c) r.2.2 ((gD G).2 c) H (fun k => fV (t k) M a k)
def mRepA (G : mG) (M : mM) (H : Heap) (a : Nat) : Prop := ∀ (t : Nat) (ty : FieldType), mK M a = 30 + t → arTy[t]? = some ty → gB G ≤ a ∧ mN M a < 2147483648 ∧ H[a]? = some (arrV (gA G t) (mN M a) (fun j => fV ty M a j))
/-- old arrays of ints, only read -/
def mRepP (G : mG) (M : mM) (H : Heap) (a : Nat) : Prop := mK M a = 40 → a < gB G ∧ mN M a < 2147483648 ∧ ∃ cell : Cell, H[a]? = some cell ∧ (gS G).isArrayOf cell .int ∧ cell.vm ≠ .unknown ∧ cell.slots.size = mN M a ∧ ∀ j, j < mN M a → cell.slots[j]? = some (mcv (vi (mI M a j)))
def mRep (G : mG) (M : mM) (H : Heap) : Prop :=
  H.size = mZ M ∧ (0 < gB G ∧ gPr G) ∧ gB G ≤ mZ M ∧ mOk M ∧ (∀ q, q < gB G → H[q]? = (gS G).heap[q]?) ∧ (∀ a, mZ M ≤ a → mK M a = 0) ∧ ∀ a, mRepO G M H a ∧ mRepA G M H a ∧ mRepP G M H a
/-- a method: its name, code, locals, answer -/
abbrev mY : Type := MethodName × ByteArray × Nat × Option FieldType
abbrev yC (y : mY) : Cond := Cond.code y.1 y.2.1 y.2.2.1 y.2.2.2
/-- the tables are those of the law's start, but warmer; its string constants lie where they lay -/
def mAl (G : mG) (U : State) : Prop := (gS G).vm.Alike U.vm ∧ ∀ (own : String) (k : Nat) (tx : String) (a : Nat), vk_R own k tx a (gS G) → vk_R own k tx a U
theorem mAl.moved {G : mG} {s U : State} (h : mAl G s) (hW : s.WarmedH U.vm) : mAl G U := ⟨h.1.trans hW.alike, fun own k tx a q => vk_R.warm hW (h.2 own k tx a q)⟩
def mPre (G : mG) (M : mM) (U : State) : Prop := mRep G M U.heap ∧ va_K (gD G) vwCl (zT (gA G)) U ∧ zH U ∧ mAl G U
def mQ (G : mG) (r : Option mV) (M' : mM) : Array Value → State → Outcome → State → Prop := fun _ _ oc t => oc = .returned (r.map mcv) ∧ mRep G M' t.heap
/-- the contract of an exact run -/
def mCl (G : mG) (y : mY) (d : Nat) (args : List mV) (M : mM) (r : Option mV) (M' : mM) : Prop :=
  (mZ M ≤ mZ M' ∧ mS M ≤ mS M') ∧ Met (gL G) y.1 (zW (yC y)) { frames := d, cells := mZ M' - mZ M, slots := mS M' - mS M, locals := 64 * d } (va_Pc (args.map mcv) (mPre G M)) (mQ G r M') (mZ M' - mZ M) (mS M' - mS M) (mOwn G)
/-- the place in which a method's instructions run -/
def mAt (G : mG) (y : mY) (d : Nat) (p : Program) (R : Room) (s : State) (m : MethodId) (args : Array Value) (meth : Method) (c : Code) : Prop :=
  p.tables.exec = Jvm.exec ∧ c.code = y.2.1 ∧ c.maxLocals = y.2.2.1 ∧ meth.sig.returnType = y.2.2.2 ∧ meth.locks = false ∧ meth.name = y.1.name ∧ s.vm.findClass y.1.cls = some m.cls ∧ va_K (gD G) vwCl (zT (gA G)) s ∧ (∀ w ∈ lw_R, w.before args s = true) ∧ zH s ∧ mAl G s ∧ d ≤ R.frames ∧ 64 * d ≤ R.locals
def mLs (ls : Array Slot) (nL : Nat) (L : List mV) : Prop := ls.size = nL ∧ lv_wf ls ∧ ∀ (i : Nat) (v : mV), L[i]? = some v → mLive v = true → ls[i]? = some (.val (mcv v))
def mEv (G : mG) (y : mY) (d pc : Nat) (L st : List mV) (M : mM) (r : Option mV) (M' : mM) : Prop :=
  (mZ M ≤ mZ M' ∧ mS M ≤ mS M') ∧
  ∀ (p : Program) (e : Env) (R : Room) (s : State) (m : MethodId) (args : Array Value) (below : List Frame) (meth : Method) (c : Code) (H : Heap) (locs : List Loc) (cells slots : Nat) (ls : Array Slot),
    mAt G y d p R s m args meth c → mRep G M H → (∀ q ∈ locs, mOwn G q.base) → cells + (mZ M' - mZ M) ≤ R.cells → slots + (mS M' - mS M) ≤ R.slots → mLs ls y.2.2.1 L →
    W p (gL G) e R s m args below meth c H locs cells slots (MQ below (mQ G r M') args s (cells + (mZ M' - mZ M)) (slots + (mS M' - mS M)) (mOwn G)) (F0 m pc ls (st.map mcv))
def mWm (G : mG) (y : mY) (d pc : Nat) (L st : List mV) (M : mM) (Q : Option mV → mM → Prop) : Prop := ∃ r M', mEv G y d pc L st M r M' ∧ Q r M'
def mCm (G : mG) (y : mY) (d : Nat) (args : List mV) (M : mM) (Q : Option mV → mM → Prop) : Prop := ∃ r M', mCl G y d args M r M' ∧ Q r M'
theorem mCm.mono {G : mG} {y : mY} {d : Nat} {args : List mV} {M : mM} {Q Q' : Option mV → mM → Prop} (h : mCm G y d args M Q) (hq : ∀ r M', Q r M' → Q' r M') : mCm G y d args M Q' := by
  obtain ⟨r, M', h1, h2⟩ := h
  exact ⟨r, M', h1, hq r M' h2⟩
theorem mWm.mono {G : mG} {y : mY} {d pc : Nat} {L st : List mV} {M : mM} {Q Q' : Option mV → mM → Prop} (h : mWm G y d pc L st M Q) (hq : ∀ r M', Q r M' → Q' r M') : mWm G y d pc L st M Q' := by
  obtain ⟨r, M', h1, h2⟩ := h
  exact ⟨r, M', h1, hq r M' h2⟩
/-! locals -/
def mTo (L : List mV) : List (Nat × Value) := (L.zipIdx.filter (fun q => mLive q.1)).map (fun q => (q.2, mcv q.1))
theorem mTo_mem {L : List mV} {q : Nat × Value} : q ∈ mTo L ↔ ∃ v, L[q.1]? = some v ∧ mLive v = true ∧ q.2 = mcv v := by
  unfold mTo
  constructor
  · intro h
    obtain ⟨⟨v, i⟩, h1, h2⟩ := List.mem_map.mp h
    obtain ⟨h3, h4⟩ := List.mem_filter.mp h1
    subst h2
    exact ⟨v, List.mem_zipIdx_iff_getElem?.mp h3, h4, rfl⟩
  · rintro ⟨v, h1, h2, h3⟩
    refine List.mem_map.mpr ⟨(v, q.1), List.mem_filter.mpr ⟨List.mem_zipIdx_iff_getElem?.mpr h1, h2⟩, ?_⟩
    exact Prod.ext rfl h3.symm
theorem mLs.has {ls : Array Slot} {nL : Nat} {L : List mV} (h : mLs ls nL L) : lv_has ls nL (mTo L) := by
  refine ⟨h.1, h.2.1, fun q hq => ?_⟩
  obtain ⟨v, h1, h2, h3⟩ := mTo_mem.mp hq
  rw [h3]
  exact h.2.2 _ v h1 h2
theorem mLs.at {ls : Array Slot} {nL : Nat} {L : List mV} (h : mLs ls nL L) {i : Nat} {v : mV} (hv : L[i]? = some v) (hl : mLive v = true) : ls[i]? = some (.val (mcv v)) := h.2.2 i v hv hl
/-- a long that stands just ahead is gone -/
def mKill (L : List mV) : Nat → List mV
  | 0 => L
  | j + 1 => match L[j]? with
    | some (.inr (.inl _)) => L.set j vd
    | _ => L
def mSto (L : List mV) (i : Nat) (x : mV) : List mV := (mKill L i).set i x
def mSto2 (L : List mV) (i : Nat) (x : mV) : List mV := ((mKill L i).set i x).set (i + 1) vd
theorem mKill_at {L : List mV} {i j : Nat} {v : mV} (h : (mKill L i)[j]? = some v) (hl : mLive v = true) : L[j]? = some v ∧ ¬ (j + 1 = i ∧ mcat v = 2) := by
  cases i with
  | zero => exact ⟨h, by omega⟩
  | succ k =>
    simp only [mKill] at h
    split at h
    · by_cases hj : k = j
      · subst hj
        rw [List.getElem?_set] at h
        simp only [if_true] at h
        split at h
        · have h2 := Option.some.inj h
          subst h2
          cases hl
        · cases h
      · rw [List.getElem?_set_ne hj] at h
        exact ⟨h, by omega⟩
    · refine ⟨h, fun q => ?_⟩
      obtain ⟨q1, q2⟩ := q
      have hj : j = k := by omega
      subst hj
      rcases v with x | x | a | u
      · cases q2
      · rename_i h9; exact h9 x h
      · cases q2
      · cases q2
theorem mLs.sto {ls' : Array Slot} {nL : Nat} {L : List mV} {i : Nat} {x : mV} (h : lv_has ls' nL ((i, mcv x) :: (mTo L).filter (fun q => !(q.1 == i) && !(q.1 + 1 == i && q.2.category == 2)))) : mLs ls' nL (mSto L i x) := by
  refine ⟨h.1, h.2.1, fun j v hj hl => ?_⟩
  by_cases e : i = j
  · subst e
    unfold mSto at hj
    rw [List.getElem?_set] at hj
    simp only [if_true] at hj
    split at hj
    · have h2 := Option.some.inj hj
      subst h2
      exact h.2.2 (i, mcv x) List.mem_cons_self
    · cases hj
  · unfold mSto at hj
    rw [List.getElem?_set_ne e] at hj
    obtain ⟨h1, h2⟩ := mKill_at hj hl
    refine h.2.2 (j, mcv v) (List.mem_cons_of_mem _ (List.mem_filter.mpr ⟨mTo_mem.mpr ⟨v, h1, hl, rfl⟩, ?_⟩))
    have e2 : (j == i) = false := by simp; omega
    simp only [e2, mcat_mcv, Bool.not_false, Bool.true_and, Bool.not_eq_true', Bool.and_eq_false_iff, beq_eq_false_iff_ne]
    by_cases e3 : j + 1 = i
    · exact Or.inr (fun q => h2 ⟨e3, q⟩)
    · exact Or.inl e3
theorem mLs.sto2 {ls' : Array Slot} {nL : Nat} {L : List mV} {i : Nat} {x : mV} (h : lv_has ls' nL ((i, mcv x) :: (mTo L).filter (fun q => !(q.1 == i) && (!(q.1 == i + 1) && !(q.1 + 1 == i && q.2.category == 2))))) : mLs ls' nL (mSto2 L i x) := by
  refine ⟨h.1, h.2.1, fun j v hj hl => ?_⟩
  unfold mSto2 at hj
  by_cases e0 : i + 1 = j
  · subst e0
    rw [List.getElem?_set] at hj
    simp only [if_true] at hj
    split at hj
    · have h2 := Option.some.inj hj
      subst h2
      cases hl
    · cases hj
  rw [List.getElem?_set_ne e0] at hj
  by_cases e : i = j
  · subst e
    rw [List.getElem?_set] at hj
    simp only [if_true] at hj
    split at hj
    · have h2 := Option.some.inj hj
      subst h2
      exact h.2.2 (i, mcv x) List.mem_cons_self
    · cases hj
  · rw [List.getElem?_set_ne e] at hj
    obtain ⟨h1, h2⟩ := mKill_at hj hl
    refine h.2.2 (j, mcv v) (List.mem_cons_of_mem _ (List.mem_filter.mpr ⟨mTo_mem.mpr ⟨v, h1, hl, rfl⟩, ?_⟩))
    have e2 : (j == i) = false := by simp; omega
    have e4 : (j == i + 1) = false := by simp; omega
    simp only [e2, e4, mcat_mcv, Bool.not_false, Bool.true_and, Bool.not_eq_true', Bool.and_eq_false_iff, beq_eq_false_iff_ne]
    by_cases e3 : j + 1 = i
    · exact Or.inr (fun q => h2 ⟨e3, q⟩)
    · exact Or.inl e3
/-- fewer locals -/
def mLe : List mV → List mV → Prop
  | [], _ => True
  | _ :: _, [] => False
  | x :: xs, z :: zs => (x = vd ∨ x = z) ∧ mLe xs zs
theorem mLe_at : ∀ (L' L : List mV), mLe L' L → ∀ (i : Nat) (v : mV), L'[i]? = some v → mLive v = true → L[i]? = some v
  | [], _, _, i, v, h, _ => by simp at h
  | _ :: _, [], h, _, _, _, _ => False.elim h
  | x :: xs, z :: zs, h, 0, v, hi, hl => by
    have e : x = v := by simpa using hi
    subst e
    rcases h.1 with e | e
    · subst e; cases hl
    · subst e; rfl
  | x :: xs, z :: zs, h, i + 1, v, hi, hl => by
    have hi : xs[i]? = some v := by simpa using hi
    have := mLe_at xs zs h.2 i v hi hl
    simpa using this
theorem mLs.less {ls : Array Slot} {nL : Nat} {L L' : List mV} (h : mLs ls nL L) (hle : mLe L' L) : mLs ls nL L' := ⟨h.1, h.2.1, fun i v hv hl => h.2.2 i v (mLe_at L' L hle i v hv hl) hl⟩
/-- the locals at a method's start -/
def mEnt : List mV → List mV
  | [] => []
  | .inr (.inl x) :: vs => vl x :: vd :: mEnt vs
  | v :: vs => v :: mEnt vs
theorem mEnt_args : ∀ (vs : List mV) (i0 i : Nat) (v : mV), (mEnt vs)[i]? = some v → mLive v = true → (i0 + i, mcv v) ∈ lv_args i0 (vs.map mcv)
  | [], i0, i, v, h, _ => by simp [mEnt] at h
  | .inl x :: vs, i0, 0, v, h, _ => by
    have e : Sum.inl x = v := by simpa [mEnt] using h
    subst e
    exact List.mem_cons_self
  | .inl x :: vs, i0, i + 1, v, h, hl => by
    have h : (mEnt vs)[i]? = some v := by simpa [mEnt] using h
    have := mEnt_args vs (i0 + 1) i v h hl
    refine List.mem_cons_of_mem _ ?_
    have e : i0 + (i + 1) = i0 + 1 + i := by omega
    rw [e]
    exact this
  | .inr (.inr (.inl a)) :: vs, i0, 0, v, h, _ => by
    have e : vr a = v := by simpa [mEnt] using h
    subst e
    exact List.mem_cons_self
  | .inr (.inr (.inl a)) :: vs, i0, i + 1, v, h, hl => by
    have h : (mEnt vs)[i]? = some v := by simpa [mEnt] using h
    have h2 := mEnt_args vs (i0 + 1) i v h hl
    refine List.mem_cons_of_mem _ ?_
    have e : i0 + (i + 1) = i0 + 1 + i := by omega
    rw [e, show (mcv (Sum.inr (Sum.inr (Sum.inl a)))).category = 1 from mcat_mcv _]
    exact h2
  | .inr (.inr (.inr u)) :: vs, i0, 0, v, h, hl => by
    have e : Sum.inr (Sum.inr (Sum.inr u)) = v := by simpa [mEnt] using h
    subst e
    exact List.mem_cons_self
  | .inr (.inr (.inr u)) :: vs, i0, i + 1, v, h, hl => by
    have h : (mEnt vs)[i]? = some v := by simpa [mEnt] using h
    have h2 := mEnt_args vs (i0 + 1) i v h hl
    refine List.mem_cons_of_mem _ ?_
    have e : i0 + (i + 1) = i0 + 1 + i := by omega
    rw [e, show (mcv (Sum.inr (Sum.inr (Sum.inr u)))).category = 1 from mcat_mcv _]
    exact h2
  | .inr (.inl x) :: vs, i0, 0, v, h, _ => by
    have e : vl x = v := by simpa [mEnt] using h
    subst e
    exact List.mem_cons_self
  | .inr (.inl x) :: vs, i0, 1, v, h, hl => by
    have e : vd = v := by simpa [mEnt] using h
    subst e
    cases hl
  | .inr (.inl x) :: vs, i0, i + 2, v, h, hl => by
    have h : (mEnt vs)[i]? = some v := by simpa [mEnt] using h
    have h2 := mEnt_args vs (i0 + 2) i v h hl
    refine List.mem_cons_of_mem _ ?_
    have e : i0 + (i + 2) = i0 + 2 + i := by omega
    rw [e]
    exact h2
end
section
/-! THE FLAT MACHINE'S RULES: an instruction, a rule. -/
def shlI (x s : Int) : Int := (Int32.ofInt x <<< (Int32.ofInt s &&& 31)).toInt
def shrI (x s : Int) : Int := (Int32.ofInt x >>> (Int32.ofInt s &&& 31)).toInt
def ushrI (x s : Int) : Int := ((Int32.ofInt x).toUInt32 >>> ((Int32.ofInt s).toUInt32 &&& Int32.toUInt32 31)).toInt32.toInt
def andI (x z : Int) : Int := (Int32.ofInt x &&& Int32.ofInt z).toInt
def orI (x z : Int) : Int := (Int32.ofInt x ||| Int32.ofInt z).toInt
def xorI (x z : Int) : Int := (Int32.ofInt x ^^^ Int32.ofInt z).toInt
def shlL (x s : Int) : Int := (Int64.ofInt x <<< ((Int32.ofInt s).toInt64 &&& 63)).toInt
def shrL (x s : Int) : Int := (Int64.ofInt x >>> ((Int32.ofInt s).toInt64 &&& 63)).toInt
def ushrL (x s : Int) : Int := ((Int64.ofInt x).toUInt64 >>> ((Int32.ofInt s).toInt64.toUInt64 &&& Int64.toUInt64 63)).toInt64.toInt
def andL (x z : Int) : Int := (Int64.ofInt x &&& Int64.ofInt z).toInt
def i2cI (x : Int) : Int := ((Int32.ofInt x).toUInt32 % 65536).toInt32.toInt
def cmpL (x z : Int) : Int := if z < x then 1 else if x = z then 0 else -1
section Rules
variable {G : mG} {y : mY} {d pc : Nat} {L st : List mV} {M : mM} {Q : Option mV → mM → Prop}
/-- a step that changes the place, the stack and the locals alone -/
theorem wm_ls {pc' : Nat} {L' st' : List mV} (hs : ∀ (p : Program) (e : Env) (R : Room) (s : State) (m : MethodId) (args : Array Value) (below : List Frame) (meth : Method) (c : Code) (H : Heap) (locs : List Loc) (cells slots : Nat) (ls : Array Slot) (Qf : State → Prop), mAt G y d p R s m args meth c → mRep G M H → mLs ls y.2.2.1 L → (∀ ls' : Array Slot, mLs ls' y.2.2.1 L' → W p (gL G) e R s m args below meth c H locs cells slots Qf (F0 m pc' ls' (st'.map mcv))) → W p (gL G) e R s m args below meth c H locs cells slots Qf (F0 m pc ls (st.map mcv))) (h : mWm G y d pc' L' st' M Q) : mWm G y d pc L st M Q := by
  obtain ⟨r, M', ⟨h1, h2⟩, h3⟩ := h
  exact ⟨r, M', ⟨h1, fun p e R s m args below meth c H locs cells slots ls hA hR hl hc hs' hL => hs p e R s m args below meth c H locs cells slots ls _ hA hR hL (fun ls' hL' => h2 p e R s m args below meth c H locs cells slots ls' hA hR hl hc hs' hL')⟩, h3⟩
/-- a step that changes the place and the stack alone -/
theorem wm_st {pc' : Nat} {st' : List mV} (hs : ∀ (p : Program) (e : Env) (R : Room) (s : State) (m : MethodId) (args : Array Value) (below : List Frame) (meth : Method) (c : Code) (H : Heap) (locs : List Loc) (cells slots : Nat) (ls : Array Slot) (Qf : State → Prop), mAt G y d p R s m args meth c → mRep G M H → mLs ls y.2.2.1 L → W p (gL G) e R s m args below meth c H locs cells slots Qf (F0 m pc' ls (st'.map mcv)) → W p (gL G) e R s m args below meth c H locs cells slots Qf (F0 m pc ls (st.map mcv))) (h : mWm G y d pc' L st' M Q) : mWm G y d pc L st M Q :=
  wm_ls (fun p e R s m args below meth c H locs cells slots ls Qf hA hR hL k => hs p e R s m args below meth c H locs cells slots ls Qf hA hR hL (k ls hL)) h
theorem wm_less {L' : List mV} (hle : mLe L' L) (h : mWm G y d pc L' st M Q) : mWm G y d pc L st M Q :=
  wm_ls (fun p e R s m args below meth c H locs cells slots ls Qf hA hR hL k => k ls (hL.less hle)) h

theorem wm_iconst {n : Int} (hd : decode y.2.1 pc = .ok (.iconst n, 1)) (h : mWm G y d (pc + 1) L (vi n :: st) M Q) : mWm G y d pc L st M Q := wm_st (fun p e R s m args below meth c H locs cells slots ls Qf hA hR hL k => lv_iconst hA.1 hA.2.1 hd rfl k) h
theorem wm_bipush {n : Int} (hd : decode y.2.1 pc = .ok (.bipush n, 2)) (hv : (Int8.ofInt n).toInt32 = Int32.ofInt n) (h : mWm G y d (pc + 2) L (vi n :: st) M Q) : mWm G y d pc L st M Q := wm_st (fun p e R s m args below meth c H locs cells slots ls Qf hA hR hL k => lv_bipush hA.1 hA.2.1 hd hv k) h
theorem wm_sipush {n : Int} (hd : decode y.2.1 pc = .ok (.sipush n, 3)) (hv : (Int16.ofInt n).toInt32 = Int32.ofInt n) (h : mWm G y d (pc + 3) L (vi n :: st) M Q) : mWm G y d pc L st M Q := wm_st (fun p e R s m args below meth c H locs cells slots ls Qf hA hR hL k => lv_sipush hA.1 hA.2.1 hd hv k) h
theorem wm_lconst {n : Fin 2} {x : Int} (hd : decode y.2.1 pc = .ok (.lconst n, 1)) (hv : Int64.ofNat (n : Nat) = Int64.ofInt x) (h : mWm G y d (pc + 1) L (vl x :: st) M Q) : mWm G y d pc L st M Q := wm_st (fun p e R s m args below meth c H locs cells slots ls Qf hA hR hL k => lv_lconst hA.1 hA.2.1 hd hv k) h
theorem wm_ldc {i : Nat} {v : Int32} {x : Int} (hd : decode y.2.1 pc = .ok (.ldc i, 2)) (hw : Cond.constant y.1.cls i v ∈ lw_R) (hv : v = Int32.ofInt x) (h : mWm G y d (pc + 2) L (vi x :: st) M Q) : mWm G y d pc L st M Q := wm_st (fun p e R s m args below meth c H locs cells slots ls Qf hA hR hL k => by subst hv; exact lv_ldc hA.1 hA.2.1 hA.2.2.2.2.2.2.1 (hA.2.2.2.2.2.2.2.2.1 _ hw) hd k) h
theorem wm_ldcw {i : Nat} {v : Int32} {x : Int} (hd : decode y.2.1 pc = .ok (.ldc_w i, 3)) (hw : Cond.constant y.1.cls i v ∈ lw_R) (hv : v = Int32.ofInt x) (h : mWm G y d (pc + 3) L (vi x :: st) M Q) : mWm G y d pc L st M Q := wm_st (fun p e R s m args below meth c H locs cells slots ls Qf hA hR hL k => by subst hv; exact lv_ldcw hA.1 hA.2.1 hA.2.2.2.2.2.2.1 (hA.2.2.2.2.2.2.2.2.1 _ hw) hd k) h
theorem wm_ldc2 {i : Nat} {v : Int64} {x : Int} (hd : decode y.2.1 pc = .ok (.ldc2_w i, 3)) (hw : Cond.constantLong y.1.cls i v ∈ lw_R) (hv : v = Int64.ofInt x) (h : mWm G y d (pc + 3) L (vl x :: st) M Q) : mWm G y d pc L st M Q := wm_st (fun p e R s m args below meth c H locs cells slots ls Qf hA hR hL k => by subst hv; exact lv_ldc2 hA.1 hA.2.1 hA.2.2.2.2.2.2.1 (hA.2.2.2.2.2.2.2.2.1 _ hw) hd k) h
theorem wm_null  (hd : decode y.2.1 pc = .ok (.aconst_null, 1)) (h : mWm G y d (pc + 1) L (vr 0 :: st) M Q) : mWm G y d pc L st M Q := wm_st (fun p e R s m args below meth c H locs cells slots ls Qf hA hR hL k => lv_null hA.1 hA.2.1 hd k) h
theorem wm_iload_n {k0 : Fin 4} {i : Nat} {x : Int} (hd : decode y.2.1 pc = .ok (.iload_n k0, 1)) (hi : (k0 : Nat) = i) (hv : L[i]? = some (vi x)) (h : mWm G y d (pc + 1) L (vi x :: st) M Q) : mWm G y d pc L st M Q := wm_st (fun p e R s m args below meth c H locs cells slots ls Qf hA hR hL k => lv_iload_n hA.1 hA.2.1 hd hi (hL.at hv rfl) k) h
theorem wm_iload {i : Nat} {x : Int} (hd : decode y.2.1 pc = .ok (.iload i, 2)) (hv : L[i]? = some (vi x)) (h : mWm G y d (pc + 2) L (vi x :: st) M Q) : mWm G y d pc L st M Q := wm_st (fun p e R s m args below meth c H locs cells slots ls Qf hA hR hL k => lv_iload hA.1 hA.2.1 hd (hL.at hv rfl) k) h
theorem wm_lload_n {k0 : Fin 4} {i : Nat} {x : Int} (hd : decode y.2.1 pc = .ok (.lload_n k0, 1)) (hi : (k0 : Nat) = i) (hv : L[i]? = some (vl x)) (h : mWm G y d (pc + 1) L (vl x :: st) M Q) : mWm G y d pc L st M Q := wm_st (fun p e R s m args below meth c H locs cells slots ls Qf hA hR hL k => lv_lload_n hA.1 hA.2.1 hd hi (hL.at hv rfl) k) h
theorem wm_lload {i : Nat} {x : Int} (hd : decode y.2.1 pc = .ok (.lload i, 2)) (hv : L[i]? = some (vl x)) (h : mWm G y d (pc + 2) L (vl x :: st) M Q) : mWm G y d pc L st M Q := wm_st (fun p e R s m args below meth c H locs cells slots ls Qf hA hR hL k => lv_lload hA.1 hA.2.1 hd (hL.at hv rfl) k) h
theorem wm_aload_n {k0 : Fin 4} {i : Nat} {x : Nat} (hd : decode y.2.1 pc = .ok (.aload_n k0, 1)) (hi : (k0 : Nat) = i) (hv : L[i]? = some (vr x)) (h : mWm G y d (pc + 1) L (vr x :: st) M Q) : mWm G y d pc L st M Q := by
  by_cases h0 : x = 0
  · subst h0
    exact wm_st (fun p e R s m args below meth c H locs cells slots ls Qf hA hR hL k => lv_aload_nN hA.1 hA.2.1 hd hi (hL.at hv rfl) k) h
  · have e9 : mcv (vr x) = .ref x := if_neg h0
    exact wm_st (fun p e R s m args below meth c H locs cells slots ls Qf hA hR hL k => by
      have k' : W p (gL G) e R s m args below meth c H locs cells slots Qf (F0 m (pc + 1) ls (.ref x :: st.map mcv)) := by rw [← e9]; exact k
      exact lv_aload_n hA.1 hA.2.1 hd hi (by rw [← e9]; exact hL.at hv rfl) k') h
theorem wm_aload {i : Nat} {x : Nat} (hd : decode y.2.1 pc = .ok (.aload i, 2)) (hv : L[i]? = some (vr x)) (h : mWm G y d (pc + 2) L (vr x :: st) M Q) : mWm G y d pc L st M Q := by
  by_cases h0 : x = 0
  · subst h0
    exact wm_st (fun p e R s m args below meth c H locs cells slots ls Qf hA hR hL k => lv_aloadN hA.1 hA.2.1 hd (hL.at hv rfl) k) h
  · have e9 : mcv (vr x) = .ref x := if_neg h0
    exact wm_st (fun p e R s m args below meth c H locs cells slots ls Qf hA hR hL k => by
      have k' : W p (gL G) e R s m args below meth c H locs cells slots Qf (F0 m (pc + 2) ls (.ref x :: st.map mcv)) := by rw [← e9]; exact k
      exact lv_aload hA.1 hA.2.1 hd (by rw [← e9]; exact hL.at hv rfl) k') h
theorem wm_istore_n {k0 : Fin 4} {i : Nat} {x : Int} {L' : List mV} (hd : decode y.2.1 pc = .ok (.istore_n k0, 1)) (hi : (k0 : Nat) = i) (hn : i < y.2.2.1) (hS : mSto L i (vi x) = L') (h : mWm G y d (pc + 1) L' st M Q) : mWm G y d pc L (vi x :: st) M Q := by subst hS; exact wm_ls (fun p e R s m args below meth c H locs cells slots ls Qf hA hR hL k => lv_istore_n hA.1 hA.2.1 hd hi hL.has hn rfl (fun ls' h' => k ls' (mLs.sto (x := vi x) h'))) h
theorem wm_istore {i : Nat} {x : Int} {L' : List mV} (hd : decode y.2.1 pc = .ok (.istore i, 2)) (hn : i < y.2.2.1) (hS : mSto L i (vi x) = L') (h : mWm G y d (pc + 2) L' st M Q) : mWm G y d pc L (vi x :: st) M Q := by subst hS; exact wm_ls (fun p e R s m args below meth c H locs cells slots ls Qf hA hR hL k => lv_istore hA.1 hA.2.1 hd hL.has hn rfl (fun ls' h' => k ls' (mLs.sto (x := vi x) h'))) h
theorem wm_lstore_n {k0 : Fin 4} {i : Nat} {x : Int} {L' : List mV} (hd : decode y.2.1 pc = .ok (.lstore_n k0, 1)) (hi : (k0 : Nat) = i) (hn : i + 1 < y.2.2.1) (hS : mSto2 L i (vl x) = L') (h : mWm G y d (pc + 1) L' st M Q) : mWm G y d pc L (vl x :: st) M Q := by subst hS; exact wm_ls (fun p e R s m args below meth c H locs cells slots ls Qf hA hR hL k => lv_lstore_n hA.1 hA.2.1 hd hi hL.has hn rfl (fun ls' h' => k ls' (mLs.sto2 (x := vl x) h'))) h
theorem wm_lstore {i : Nat} {x : Int} {L' : List mV} (hd : decode y.2.1 pc = .ok (.lstore i, 2)) (hn : i + 1 < y.2.2.1) (hS : mSto2 L i (vl x) = L') (h : mWm G y d (pc + 2) L' st M Q) : mWm G y d pc L (vl x :: st) M Q := by subst hS; exact wm_ls (fun p e R s m args below meth c H locs cells slots ls Qf hA hR hL k => lv_lstore hA.1 hA.2.1 hd hL.has hn rfl (fun ls' h' => k ls' (mLs.sto2 (x := vl x) h'))) h
theorem wm_astore_n {k0 : Fin 4} {i : Nat} {x : Nat} {L' : List mV} (hd : decode y.2.1 pc = .ok (.astore_n k0, 1)) (hi : (k0 : Nat) = i) (hn : i < y.2.2.1) (hS : mSto L i (vr x) = L') (h : mWm G y d (pc + 1) L' st M Q) : mWm G y d pc L (vr x :: st) M Q := by
  subst hS
  by_cases h0 : x = 0
  · subst h0
    exact wm_ls (fun p e R s m args below meth c H locs cells slots ls Qf hA hR hL k => lv_astore_nN hA.1 hA.2.1 hd hi hL.has hn rfl (fun ls' h' => k ls' (mLs.sto (x := vr 0) h'))) h
  · have e9 : mcv (vr x) = .ref x := if_neg h0
    exact wm_ls (fun p e R s m args below meth c H locs cells slots ls Qf hA hR hL k => by
      show W p (gL G) e R s m args below meth c H locs cells slots Qf (F0 m pc ls (mcv (vr x) :: st.map mcv))
      rw [e9]
      exact lv_astore_n hA.1 hA.2.1 hd hi hL.has hn rfl (fun ls' h' => k ls' (mLs.sto (x := vr x) (by rw [e9]; exact h')))) h
theorem wm_astore {i : Nat} {x : Nat} {L' : List mV} (hd : decode y.2.1 pc = .ok (.astore i, 2)) (hn : i < y.2.2.1) (hS : mSto L i (vr x) = L') (h : mWm G y d (pc + 2) L' st M Q) : mWm G y d pc L (vr x :: st) M Q := by
  subst hS
  by_cases h0 : x = 0
  · subst h0
    exact wm_ls (fun p e R s m args below meth c H locs cells slots ls Qf hA hR hL k => lv_astoreN hA.1 hA.2.1 hd hL.has hn rfl (fun ls' h' => k ls' (mLs.sto (x := vr 0) h'))) h
  · have e9 : mcv (vr x) = .ref x := if_neg h0
    exact wm_ls (fun p e R s m args below meth c H locs cells slots ls Qf hA hR hL k => by
      show W p (gL G) e R s m args below meth c H locs cells slots Qf (F0 m pc ls (mcv (vr x) :: st.map mcv))
      rw [e9]
      exact lv_astore hA.1 hA.2.1 hd hL.has hn rfl (fun ls' h' => k ls' (mLs.sto (x := vr x) (by rw [e9]; exact h')))) h
theorem wm_iinc {i : Nat} {n x : Int} {L' : List mV} (hd : decode y.2.1 pc = .ok (.iinc i n, 3)) (hn : i < y.2.2.1) (hv : L[i]? = some (vi x)) (hS : mSto L i (vi (x + n)) = L') (h : mWm G y d (pc + 3) L' st M Q) : mWm G y d pc L st M Q := by
  subst hS
  obtain ⟨k9, hk9⟩ := List.getElem?_of_mem (mTo_mem (q := (i, mcv (vi x))).mpr ⟨vi x, hv, rfl, rfl⟩)
  exact wm_ls (fun p e R s m args below meth c H locs cells slots ls Qf hA hR hL k => lv_iinc hA.1 hA.2.1 hd hL.has hk9 (by rw [← Int32.ofInt_add]) hn rfl (fun ls' h' => k ls' (mLs.sto (x := vi (x + n)) h'))) h
theorem wm_iadd {x z : Int} (hd : decode y.2.1 pc = .ok (.iadd, 1)) (h : mWm G y d (pc + 1) L (vi (x + z) :: st) M Q) : mWm G y d pc L (vi z :: vi x :: st) M Q :=
  wm_st (fun p e R s m args below meth c H locs cells slots ls Qf hA hR hL k => by
    have k' : W p (gL G) e R s m args below meth c H locs cells slots Qf (F0 m (pc + 1) ls (.int (Int32.ofInt (x + z)) :: st.map mcv)) := k
    rw [Int32.ofInt_add] at k'
    exact lv_iadd hA.1 hA.2.1 hd k') h
theorem wm_isub {x z : Int} (hd : decode y.2.1 pc = .ok (.isub, 1)) (h : mWm G y d (pc + 1) L (vi (x - z) :: st) M Q) : mWm G y d pc L (vi z :: vi x :: st) M Q :=
  wm_st (fun p e R s m args below meth c H locs cells slots ls Qf hA hR hL k => by
    have k' : W p (gL G) e R s m args below meth c H locs cells slots Qf (F0 m (pc + 1) ls (.int (Int32.ofInt (x - z)) :: st.map mcv)) := k
    rw [Int32.ofInt_sub] at k'
    exact lv_isub hA.1 hA.2.1 hd k') h
theorem wm_imul {x z : Int} (hd : decode y.2.1 pc = .ok (.imul, 1)) (h : mWm G y d (pc + 1) L (vi (x * z) :: st) M Q) : mWm G y d pc L (vi z :: vi x :: st) M Q :=
  wm_st (fun p e R s m args below meth c H locs cells slots ls Qf hA hR hL k => by
    have k' : W p (gL G) e R s m args below meth c H locs cells slots Qf (F0 m (pc + 1) ls (.int (Int32.ofInt (x * z)) :: st.map mcv)) := k
    rw [Int32.ofInt_mul] at k'
    exact lv_imul hA.1 hA.2.1 hd k') h
theorem wm_ladd {x z : Int} (hd : decode y.2.1 pc = .ok (.ladd, 1)) (h : mWm G y d (pc + 1) L (vl (x + z) :: st) M Q) : mWm G y d pc L (vl z :: vl x :: st) M Q :=
  wm_st (fun p e R s m args below meth c H locs cells slots ls Qf hA hR hL k => by
    have k' : W p (gL G) e R s m args below meth c H locs cells slots Qf (F0 m (pc + 1) ls (.long (Int64.ofInt (x + z)) :: st.map mcv)) := k
    rw [Int64.ofInt_add] at k'
    exact lv_ladd hA.1 hA.2.1 hd k') h
theorem wm_lsub {x z : Int} (hd : decode y.2.1 pc = .ok (.lsub, 1)) (h : mWm G y d (pc + 1) L (vl (x - z) :: st) M Q) : mWm G y d pc L (vl z :: vl x :: st) M Q :=
  wm_st (fun p e R s m args below meth c H locs cells slots ls Qf hA hR hL k => by
    have k' : W p (gL G) e R s m args below meth c H locs cells slots Qf (F0 m (pc + 1) ls (.long (Int64.ofInt (x - z)) :: st.map mcv)) := k
    rw [Int64.ofInt_sub] at k'
    exact lv_lsub hA.1 hA.2.1 hd k') h
theorem wm_lmul {x z : Int} (hd : decode y.2.1 pc = .ok (.lmul, 1)) (h : mWm G y d (pc + 1) L (vl (x * z) :: st) M Q) : mWm G y d pc L (vl z :: vl x :: st) M Q :=
  wm_st (fun p e R s m args below meth c H locs cells slots ls Qf hA hR hL k => by
    have k' : W p (gL G) e R s m args below meth c H locs cells slots Qf (F0 m (pc + 1) ls (.long (Int64.ofInt (x * z)) :: st.map mcv)) := k
    rw [Int64.ofInt_mul] at k'
    exact lv_lmul hA.1 hA.2.1 hd k') h
theorem wm_ishl {x z : Int} (hd : decode y.2.1 pc = .ok (.ishl, 1)) (h : mWm G y d (pc + 1) L (vi (shlI x z) :: st) M Q) : mWm G y d pc L (vi z :: vi x :: st) M Q :=
  wm_st (fun p e R s m args below meth c H locs cells slots ls Qf hA hR hL k => by
    have k' : W p (gL G) e R s m args below meth c H locs cells slots Qf (F0 m (pc + 1) ls (.int (Int32.ofInt (shlI x z)) :: st.map mcv)) := k
    rw [show Int32.ofInt (shlI x z) = _ from Int32.ofInt_toInt _] at k'
    exact lv_ishl hA.1 hA.2.1 hd k') h
theorem wm_ishr {x z : Int} (hd : decode y.2.1 pc = .ok (.ishr, 1)) (h : mWm G y d (pc + 1) L (vi (shrI x z) :: st) M Q) : mWm G y d pc L (vi z :: vi x :: st) M Q :=
  wm_st (fun p e R s m args below meth c H locs cells slots ls Qf hA hR hL k => by
    have k' : W p (gL G) e R s m args below meth c H locs cells slots Qf (F0 m (pc + 1) ls (.int (Int32.ofInt (shrI x z)) :: st.map mcv)) := k
    rw [show Int32.ofInt (shrI x z) = _ from Int32.ofInt_toInt _] at k'
    exact lv_ishr hA.1 hA.2.1 hd k') h
theorem wm_iand {x z : Int} (hd : decode y.2.1 pc = .ok (.iand, 1)) (h : mWm G y d (pc + 1) L (vi (andI x z) :: st) M Q) : mWm G y d pc L (vi z :: vi x :: st) M Q :=
  wm_st (fun p e R s m args below meth c H locs cells slots ls Qf hA hR hL k => by
    have k' : W p (gL G) e R s m args below meth c H locs cells slots Qf (F0 m (pc + 1) ls (.int (Int32.ofInt (andI x z)) :: st.map mcv)) := k
    rw [show Int32.ofInt (andI x z) = _ from Int32.ofInt_toInt _] at k'
    exact lv_iand hA.1 hA.2.1 hd k') h
theorem wm_ior {x z : Int} (hd : decode y.2.1 pc = .ok (.ior, 1)) (h : mWm G y d (pc + 1) L (vi (orI x z) :: st) M Q) : mWm G y d pc L (vi z :: vi x :: st) M Q :=
  wm_st (fun p e R s m args below meth c H locs cells slots ls Qf hA hR hL k => by
    have k' : W p (gL G) e R s m args below meth c H locs cells slots Qf (F0 m (pc + 1) ls (.int (Int32.ofInt (orI x z)) :: st.map mcv)) := k
    rw [show Int32.ofInt (orI x z) = _ from Int32.ofInt_toInt _] at k'
    exact lv_ior hA.1 hA.2.1 hd k') h
theorem wm_ixor {x z : Int} (hd : decode y.2.1 pc = .ok (.ixor, 1)) (h : mWm G y d (pc + 1) L (vi (xorI x z) :: st) M Q) : mWm G y d pc L (vi z :: vi x :: st) M Q :=
  wm_st (fun p e R s m args below meth c H locs cells slots ls Qf hA hR hL k => by
    have k' : W p (gL G) e R s m args below meth c H locs cells slots Qf (F0 m (pc + 1) ls (.int (Int32.ofInt (xorI x z)) :: st.map mcv)) := k
    rw [show Int32.ofInt (xorI x z) = _ from Int32.ofInt_toInt _] at k'
    exact lv_ixor hA.1 hA.2.1 hd k') h
theorem wm_land {x z : Int} (hd : decode y.2.1 pc = .ok (.land, 1)) (h : mWm G y d (pc + 1) L (vl (andL x z) :: st) M Q) : mWm G y d pc L (vl z :: vl x :: st) M Q :=
  wm_st (fun p e R s m args below meth c H locs cells slots ls Qf hA hR hL k => by
    have k' : W p (gL G) e R s m args below meth c H locs cells slots Qf (F0 m (pc + 1) ls (.long (Int64.ofInt (andL x z)) :: st.map mcv)) := k
    rw [show Int64.ofInt (andL x z) = _ from Int64.ofInt_toInt _] at k'
    exact lv_land hA.1 hA.2.1 hd k') h
theorem wm_iushr {x z : Int} (hd : decode y.2.1 pc = .ok (.iushr, 1)) (h : mWm G y d (pc + 1) L (vi (ushrI x z) :: st) M Q) : mWm G y d pc L (vi z :: vi x :: st) M Q :=
  wm_st (fun p e R s m args below meth c H locs cells slots ls Qf hA hR hL k => lv_iushr hA.1 hA.2.1 hd (Int32.ofInt_toInt _).symm k) h
theorem wm_lshl {x z : Int} (hd : decode y.2.1 pc = .ok (.lshl, 1)) (h : mWm G y d (pc + 1) L (vl (shlL x z) :: st) M Q) : mWm G y d pc L (vi z :: vl x :: st) M Q :=
  wm_st (fun p e R s m args below meth c H locs cells slots ls Qf hA hR hL k => lv_lshl hA.1 hA.2.1 hd (Int64.ofInt_toInt _).symm k) h
theorem wm_lshr {x z : Int} (hd : decode y.2.1 pc = .ok (.lshr, 1)) (h : mWm G y d (pc + 1) L (vl (shrL x z) :: st) M Q) : mWm G y d pc L (vi z :: vl x :: st) M Q :=
  wm_st (fun p e R s m args below meth c H locs cells slots ls Qf hA hR hL k => lv_lshr hA.1 hA.2.1 hd (Int64.ofInt_toInt _).symm k) h
theorem wm_lushr {x z : Int} (hd : decode y.2.1 pc = .ok (.lushr, 1)) (h : mWm G y d (pc + 1) L (vl (ushrL x z) :: st) M Q) : mWm G y d pc L (vi z :: vl x :: st) M Q :=
  wm_st (fun p e R s m args below meth c H locs cells slots ls Qf hA hR hL k => lv_lushr hA.1 hA.2.1 hd (Int64.ofInt_toInt _).symm k) h
theorem wm_ineg {x : Int} (hd : decode y.2.1 pc = .ok (.ineg, 1)) (h : mWm G y d (pc + 1) L (vi (-x) :: st) M Q) : mWm G y d pc L (vi x :: st) M Q :=
  wm_st (fun p e R s m args below meth c H locs cells slots ls Qf hA hR hL k => by
    have k' : W p (gL G) e R s m args below meth c H locs cells slots Qf (F0 m (pc + 1) ls (.int (Int32.ofInt (-x)) :: st.map mcv)) := k
    rw [Int32.ofInt_neg] at k'
    exact lv_ineg hA.1 hA.2.1 hd k') h
theorem m_idiv {x z : Int} (hx : i32 x) (hz : i32 z) : Int32.ofInt x / Int32.ofInt z = Int32.ofInt (x.tdiv z) := by
  rw [← Int32.toInt_inj, Int32.toInt_div, i32_toInt hx, i32_toInt hz, Int32.toInt_ofInt]
theorem m_irem {x z : Int} (hx : i32 x) (hz : i32 z) : Int32.ofInt x - Int32.ofInt x / Int32.ofInt z * Int32.ofInt z = Int32.ofInt (x.tmod z) := by
  rw [m_idiv hx hz, ← Int32.ofInt_mul, ← Int32.ofInt_sub]
  congr 1
  have := Int.tmod_add_mul_tdiv x z
  rw [Int.mul_comm] at this
  omega
theorem wm_idiv {x z : Int} (hd : decode y.2.1 pc = .ok (.idiv, 1)) (hx : i32 x) (hz : i32 z) (h0 : z ≠ 0) (h : mWm G y d (pc + 1) L (vi (x.tdiv z) :: st) M Q) : mWm G y d pc L (vi z :: vi x :: st) M Q :=
  wm_st (fun p e R s m args below meth c H locs cells slots ls Qf hA hR hL k => by
    have k' : W p (gL G) e R s m args below meth c H locs cells slots Qf (F0 m (pc + 1) ls (.int (Int32.ofInt (x.tdiv z)) :: st.map mcv)) := k
    rw [← m_idiv hx hz] at k'
    exact lv_idiv hA.1 hA.2.1 hd (fun q => h0 ((i32_eq hz ⟨by decide, by decide⟩).mp q)) k') h
theorem wm_irem {x z : Int} (hd : decode y.2.1 pc = .ok (.irem, 1)) (hx : i32 x) (hz : i32 z) (h0 : z ≠ 0) (h : mWm G y d (pc + 1) L (vi (x.tmod z) :: st) M Q) : mWm G y d pc L (vi z :: vi x :: st) M Q :=
  wm_st (fun p e R s m args below meth c H locs cells slots ls Qf hA hR hL k => by
    have k' : W p (gL G) e R s m args below meth c H locs cells slots Qf (F0 m (pc + 1) ls (.int (Int32.ofInt (x.tmod z)) :: st.map mcv)) := k
    rw [← m_irem hx hz] at k'
    exact lv_irem hA.1 hA.2.1 hd (fun q => h0 ((i32_eq hz ⟨by decide, by decide⟩).mp q)) k') h
theorem wm_lneg {x : Int} (hd : decode y.2.1 pc = .ok (.lneg, 1)) (h : mWm G y d (pc + 1) L (vl (-x) :: st) M Q) : mWm G y d pc L (vl x :: st) M Q :=
  wm_st (fun p e R s m args below meth c H locs cells slots ls Qf hA hR hL k => by
    have k' : W p (gL G) e R s m args below meth c H locs cells slots Qf (F0 m (pc + 1) ls (.long (Int64.ofInt (-x)) :: st.map mcv)) := k
    rw [Int64.ofInt_neg] at k'
    exact lv_lneg hA.1 hA.2.1 hd k') h
theorem m_ldiv {x z : Int} (hx : i64 x) (hz : i64 z) : Int64.ofInt x / Int64.ofInt z = Int64.ofInt (x.tdiv z) := by
  rw [← Int64.toInt_inj, Int64.toInt_div, i64_toInt hx, i64_toInt hz, Int64.toInt_ofInt]
theorem m_lrem {x z : Int} (hx : i64 x) (hz : i64 z) : Int64.ofInt x - Int64.ofInt x / Int64.ofInt z * Int64.ofInt z = Int64.ofInt (x.tmod z) := by
  rw [m_ldiv hx hz, ← Int64.ofInt_mul, ← Int64.ofInt_sub]
  congr 1
  have := Int.tmod_add_mul_tdiv x z
  rw [Int.mul_comm] at this
  omega
theorem wm_ldiv {x z : Int} (hd : decode y.2.1 pc = .ok (.ldiv, 1)) (hx : i64 x) (hz : i64 z) (h0 : z ≠ 0) (h : mWm G y d (pc + 1) L (vl (x.tdiv z) :: st) M Q) : mWm G y d pc L (vl z :: vl x :: st) M Q :=
  wm_st (fun p e R s m args below meth c H locs cells slots ls Qf hA hR hL k => by
    have k' : W p (gL G) e R s m args below meth c H locs cells slots Qf (F0 m (pc + 1) ls (.long (Int64.ofInt (x.tdiv z)) :: st.map mcv)) := k
    rw [← m_ldiv hx hz] at k'
    exact lv_ldiv hA.1 hA.2.1 hd (fun q => h0 ((i64_eq hz ⟨by decide, by decide⟩).mp q)) k') h
theorem wm_lrem {x z : Int} (hd : decode y.2.1 pc = .ok (.lrem, 1)) (hx : i64 x) (hz : i64 z) (h0 : z ≠ 0) (h : mWm G y d (pc + 1) L (vl (x.tmod z) :: st) M Q) : mWm G y d pc L (vl z :: vl x :: st) M Q :=
  wm_st (fun p e R s m args below meth c H locs cells slots ls Qf hA hR hL k => by
    have k' : W p (gL G) e R s m args below meth c H locs cells slots Qf (F0 m (pc + 1) ls (.long (Int64.ofInt (x.tmod z)) :: st.map mcv)) := k
    rw [← m_lrem hx hz] at k'
    exact lv_lrem hA.1 hA.2.1 hd (fun q => h0 ((i64_eq hz ⟨by decide, by decide⟩).mp q)) k') h
theorem m_i2l {x : Int} (hx : i32 x) : (Int32.ofInt x).toInt64 = Int64.ofInt x := by
  rw [← Int64.toInt_inj, Int32.toInt_toInt64, i32_toInt hx, i64_toInt ⟨by have := hx.1; omega, by have := hx.2; omega⟩]
theorem m_l2i (x : Int) : (Int64.ofInt x).toInt32 = Int32.ofInt x := by
  rw [← Int32.toInt_inj, Int64.toInt_toInt32, Int64.toInt_ofInt, Int32.toInt_ofInt]
  exact Int.bmod_bmod_of_dvd (by decide)
theorem wm_i2l {x : Int} (hd : decode y.2.1 pc = .ok (.i2l, 1)) (hx : i32 x) (h : mWm G y d (pc + 1) L (vl x :: st) M Q) : mWm G y d pc L (vi x :: st) M Q := wm_st (fun p e R s m args below meth c H locs cells slots ls Qf hA hR hL k => lv_i2l hA.1 hA.2.1 hd (m_i2l hx) k) h
theorem wm_l2i {x : Int} (hd : decode y.2.1 pc = .ok (.l2i, 1)) (h : mWm G y d (pc + 1) L (vi x :: st) M Q) : mWm G y d pc L (vl x :: st) M Q := wm_st (fun p e R s m args below meth c H locs cells slots ls Qf hA hR hL k => lv_l2i hA.1 hA.2.1 hd (m_l2i x) k) h
theorem wm_i2c {x : Int} (hd : decode y.2.1 pc = .ok (.i2c, 1)) (h : mWm G y d (pc + 1) L (vi (i2cI x) :: st) M Q) : mWm G y d pc L (vi x :: st) M Q := wm_st (fun p e R s m args below meth c H locs cells slots ls Qf hA hR hL k => lv_i2c hA.1 hA.2.1 hd (Int32.ofInt_toInt _).symm k) h
theorem m_lcmp {x z : Int} (hx : i64 x) (hz : i64 z) : lg_cmp (Int64.ofInt x) (Int64.ofInt z) = Int32.ofInt (cmpL x z) := by
  unfold lg_cmp cmpL
  have e1 : (Int64.ofInt x > Int64.ofInt z) ↔ z < x := i64_lt hz hx
  have e2 := i64_eq hx hz
  by_cases q : z < x
  · rw [if_pos q, if_pos (e1.mpr q)]; rfl
  · rw [if_neg q, if_neg (fun h => q (e1.mp h))]
    by_cases q2 : x = z
    · rw [if_pos q2, if_pos (e2.mpr q2)]; rfl
    · rw [if_neg q2, if_neg (fun h => q2 (e2.mp h))]; rfl
theorem wm_lcmp {x z : Int} (hd : decode y.2.1 pc = .ok (.lcmp, 1)) (hx : i64 x) (hz : i64 z) (h : mWm G y d (pc + 1) L (vi (cmpL x z) :: st) M Q) : mWm G y d pc L (vl z :: vl x :: st) M Q :=
  wm_st (fun p e R s m args below meth c H locs cells slots ls Qf hA hR hL k => by
    have k' : W p (gL G) e R s m args below meth c H locs cells slots Qf (F0 m (pc + 1) ls (.int (Int32.ofInt (cmpL x z)) :: st.map mcv)) := k
    rw [← m_lcmp hx hz] at k'
    exact W.lcmp hA.1 hA.2.1 hd k') h
theorem wm_dup {v : mV} (hd : decode y.2.1 pc = .ok (.dup, 1)) (hv : mcat v = 1) (h : mWm G y d (pc + 1) L (v :: v :: st) M Q) : mWm G y d pc L (v :: st) M Q := wm_st (fun p e R s m args below meth c H locs cells slots ls Qf hA hR hL k => lv_dup hA.1 hA.2.1 hd (by rw [mcat_mcv]; exact hv) k) h
theorem wm_pop {v : mV} (hd : decode y.2.1 pc = .ok (.pop, 1)) (hv : mcat v = 1) (h : mWm G y d (pc + 1) L st M Q) : mWm G y d pc L (v :: st) M Q := wm_st (fun p e R s m args below meth c H locs cells slots ls Qf hA hR hL k => lv_pop hA.1 hA.2.1 hd (by rw [mcat_mcv]; exact hv) k) h
theorem wm_dup_x1 {v w : mV} (hd : decode y.2.1 pc = .ok (.dup_x1, 1)) (hv : mcat v = 1) (hw : mcat w = 1) (h : mWm G y d (pc + 1) L (v :: w :: v :: st) M Q) : mWm G y d pc L (v :: w :: st) M Q := wm_st (fun p e R s m args below meth c H locs cells slots ls Qf hA hR hL k => lv_dup_x1 hA.1 hA.2.1 hd (by rw [mcat_mcv]; exact hv) (by rw [mcat_mcv]; exact hw) k) h
theorem wm_dup2 {v w : mV} (hd : decode y.2.1 pc = .ok (.dup2, 1)) (hv : mcat v = 1) (hw : mcat w = 1) (h : mWm G y d (pc + 1) L (v :: w :: v :: w :: st) M Q) : mWm G y d pc L (v :: w :: st) M Q := wm_st (fun p e R s m args below meth c H locs cells slots ls Qf hA hR hL k => lv_dup2_11 hA.1 hA.2.1 hd (by rw [mcat_mcv]; exact hv) (by rw [mcat_mcv]; exact hw) k) h
theorem wm_if_eq {x : Int} {off : Int} {tgt : Nat} (hd : decode y.2.1 pc = .ok (.ifCond .eq off, 3)) (ht : (pc : Int) + off = (tgt : Int)) (hx : i32 x) (kt : x = 0 → mWm G y d tgt L st M Q) (kf : ¬ (x = 0) → mWm G y d (pc + 3) L st M Q) : mWm G y d pc L (vi x :: st) M Q := by
  by_cases hc : x = 0
  · exact wm_st (fun p e R s m args below meth c H locs cells slots ls Qf hA hR hL k => lv_if_eq hA.1 hA.2.1 hd ht (fun _ => k) (fun q => absurd ((i32_eq0 hx).mpr hc) q)) (kt hc)
  · exact wm_st (fun p e R s m args below meth c H locs cells slots ls Qf hA hR hL k => lv_if_eq hA.1 hA.2.1 hd ht (fun q => absurd ((i32_eq0 hx).mp q) hc) (fun _ => k)) (kf hc)
theorem wm_icmp_eq {x z : Int} {off : Int} {tgt : Nat} (hd : decode y.2.1 pc = .ok (.if_icmp .eq off, 3)) (ht : (pc : Int) + off = (tgt : Int)) (hx : i32 x) (hz : i32 z) (kt : x = z → mWm G y d tgt L st M Q) (kf : ¬ (x = z) → mWm G y d (pc + 3) L st M Q) : mWm G y d pc L (vi z :: vi x :: st) M Q := by
  by_cases hc : x = z
  · exact wm_st (fun p e R s m args below meth c H locs cells slots ls Qf hA hR hL k => lv_icmp_eq hA.1 hA.2.1 hd ht (fun _ => k) (fun q => absurd ((i32_eq hx hz).mpr hc) q)) (kt hc)
  · exact wm_st (fun p e R s m args below meth c H locs cells slots ls Qf hA hR hL k => lv_icmp_eq hA.1 hA.2.1 hd ht (fun q => absurd ((i32_eq hx hz).mp q) hc) (fun _ => k)) (kf hc)
theorem wm_if_ne {x : Int} {off : Int} {tgt : Nat} (hd : decode y.2.1 pc = .ok (.ifCond .ne off, 3)) (ht : (pc : Int) + off = (tgt : Int)) (hx : i32 x) (kt : ¬ x = 0 → mWm G y d tgt L st M Q) (kf : ¬ (¬ x = 0) → mWm G y d (pc + 3) L st M Q) : mWm G y d pc L (vi x :: st) M Q := by
  by_cases hc : ¬ x = 0
  · exact wm_st (fun p e R s m args below meth c H locs cells slots ls Qf hA hR hL k => lv_if_ne hA.1 hA.2.1 hd ht (fun _ => k) (fun q => absurd ((i32_eq0 hx).mp q) hc)) (kt hc)
  · exact wm_st (fun p e R s m args below meth c H locs cells slots ls Qf hA hR hL k => lv_if_ne hA.1 hA.2.1 hd ht (fun q => absurd ((i32_eq0 hx).mpr (Classical.not_not.mp hc)) q) (fun _ => k)) (kf hc)
theorem wm_icmp_ne {x z : Int} {off : Int} {tgt : Nat} (hd : decode y.2.1 pc = .ok (.if_icmp .ne off, 3)) (ht : (pc : Int) + off = (tgt : Int)) (hx : i32 x) (hz : i32 z) (kt : ¬ x = z → mWm G y d tgt L st M Q) (kf : ¬ (¬ x = z) → mWm G y d (pc + 3) L st M Q) : mWm G y d pc L (vi z :: vi x :: st) M Q := by
  by_cases hc : ¬ x = z
  · exact wm_st (fun p e R s m args below meth c H locs cells slots ls Qf hA hR hL k => lv_icmp_ne hA.1 hA.2.1 hd ht (fun _ => k) (fun q => absurd ((i32_eq hx hz).mp q) hc)) (kt hc)
  · exact wm_st (fun p e R s m args below meth c H locs cells slots ls Qf hA hR hL k => lv_icmp_ne hA.1 hA.2.1 hd ht (fun q => absurd ((i32_eq hx hz).mpr (Classical.not_not.mp hc)) q) (fun _ => k)) (kf hc)
theorem wm_if_lt {x : Int} {off : Int} {tgt : Nat} (hd : decode y.2.1 pc = .ok (.ifCond .lt off, 3)) (ht : (pc : Int) + off = (tgt : Int)) (hx : i32 x) (kt : x < 0 → mWm G y d tgt L st M Q) (kf : ¬ (x < 0) → mWm G y d (pc + 3) L st M Q) : mWm G y d pc L (vi x :: st) M Q := by
  by_cases hc : x < 0
  · exact wm_st (fun p e R s m args below meth c H locs cells slots ls Qf hA hR hL k => lv_if_lt hA.1 hA.2.1 hd ht (fun _ => k) (fun q => absurd ((i32_lt0 hx).mpr hc) q)) (kt hc)
  · exact wm_st (fun p e R s m args below meth c H locs cells slots ls Qf hA hR hL k => lv_if_lt hA.1 hA.2.1 hd ht (fun q => absurd ((i32_lt0 hx).mp q) hc) (fun _ => k)) (kf hc)
theorem wm_icmp_lt {x z : Int} {off : Int} {tgt : Nat} (hd : decode y.2.1 pc = .ok (.if_icmp .lt off, 3)) (ht : (pc : Int) + off = (tgt : Int)) (hx : i32 x) (hz : i32 z) (kt : x < z → mWm G y d tgt L st M Q) (kf : ¬ (x < z) → mWm G y d (pc + 3) L st M Q) : mWm G y d pc L (vi z :: vi x :: st) M Q := by
  by_cases hc : x < z
  · exact wm_st (fun p e R s m args below meth c H locs cells slots ls Qf hA hR hL k => lv_icmp_lt hA.1 hA.2.1 hd ht (fun _ => k) (fun q => absurd ((i32_lt hx hz).mpr hc) q)) (kt hc)
  · exact wm_st (fun p e R s m args below meth c H locs cells slots ls Qf hA hR hL k => lv_icmp_lt hA.1 hA.2.1 hd ht (fun q => absurd ((i32_lt hx hz).mp q) hc) (fun _ => k)) (kf hc)
theorem wm_if_ge {x : Int} {off : Int} {tgt : Nat} (hd : decode y.2.1 pc = .ok (.ifCond .ge off, 3)) (ht : (pc : Int) + off = (tgt : Int)) (hx : i32 x) (kt : 0 ≤ x → mWm G y d tgt L st M Q) (kf : ¬ (0 ≤ x) → mWm G y d (pc + 3) L st M Q) : mWm G y d pc L (vi x :: st) M Q := by
  by_cases hc : 0 ≤ x
  · exact wm_st (fun p e R s m args below meth c H locs cells slots ls Qf hA hR hL k => lv_if_ge hA.1 hA.2.1 hd ht (fun _ => k) (fun q => absurd ((i32_ge0 hx).mpr hc) q)) (kt hc)
  · exact wm_st (fun p e R s m args below meth c H locs cells slots ls Qf hA hR hL k => lv_if_ge hA.1 hA.2.1 hd ht (fun q => absurd ((i32_ge0 hx).mp q) hc) (fun _ => k)) (kf hc)
theorem wm_icmp_ge {x z : Int} {off : Int} {tgt : Nat} (hd : decode y.2.1 pc = .ok (.if_icmp .ge off, 3)) (ht : (pc : Int) + off = (tgt : Int)) (hx : i32 x) (hz : i32 z) (kt : z ≤ x → mWm G y d tgt L st M Q) (kf : ¬ (z ≤ x) → mWm G y d (pc + 3) L st M Q) : mWm G y d pc L (vi z :: vi x :: st) M Q := by
  by_cases hc : z ≤ x
  · exact wm_st (fun p e R s m args below meth c H locs cells slots ls Qf hA hR hL k => lv_icmp_ge hA.1 hA.2.1 hd ht (fun _ => k) (fun q => absurd ((i32_le hz hx).mpr hc) q)) (kt hc)
  · exact wm_st (fun p e R s m args below meth c H locs cells slots ls Qf hA hR hL k => lv_icmp_ge hA.1 hA.2.1 hd ht (fun q => absurd ((i32_le hz hx).mp q) hc) (fun _ => k)) (kf hc)
theorem wm_if_gt {x : Int} {off : Int} {tgt : Nat} (hd : decode y.2.1 pc = .ok (.ifCond .gt off, 3)) (ht : (pc : Int) + off = (tgt : Int)) (hx : i32 x) (kt : 0 < x → mWm G y d tgt L st M Q) (kf : ¬ (0 < x) → mWm G y d (pc + 3) L st M Q) : mWm G y d pc L (vi x :: st) M Q := by
  by_cases hc : 0 < x
  · exact wm_st (fun p e R s m args below meth c H locs cells slots ls Qf hA hR hL k => lv_if_gt hA.1 hA.2.1 hd ht (fun _ => k) (fun q => absurd ((i32_gt0 hx).mpr hc) q)) (kt hc)
  · exact wm_st (fun p e R s m args below meth c H locs cells slots ls Qf hA hR hL k => lv_if_gt hA.1 hA.2.1 hd ht (fun q => absurd ((i32_gt0 hx).mp q) hc) (fun _ => k)) (kf hc)
theorem wm_icmp_gt {x z : Int} {off : Int} {tgt : Nat} (hd : decode y.2.1 pc = .ok (.if_icmp .gt off, 3)) (ht : (pc : Int) + off = (tgt : Int)) (hx : i32 x) (hz : i32 z) (kt : z < x → mWm G y d tgt L st M Q) (kf : ¬ (z < x) → mWm G y d (pc + 3) L st M Q) : mWm G y d pc L (vi z :: vi x :: st) M Q := by
  by_cases hc : z < x
  · exact wm_st (fun p e R s m args below meth c H locs cells slots ls Qf hA hR hL k => lv_icmp_gt hA.1 hA.2.1 hd ht (fun _ => k) (fun q => absurd ((i32_lt hz hx).mpr hc) q)) (kt hc)
  · exact wm_st (fun p e R s m args below meth c H locs cells slots ls Qf hA hR hL k => lv_icmp_gt hA.1 hA.2.1 hd ht (fun q => absurd ((i32_lt hz hx).mp q) hc) (fun _ => k)) (kf hc)
theorem wm_if_le {x : Int} {off : Int} {tgt : Nat} (hd : decode y.2.1 pc = .ok (.ifCond .le off, 3)) (ht : (pc : Int) + off = (tgt : Int)) (hx : i32 x) (kt : x ≤ 0 → mWm G y d tgt L st M Q) (kf : ¬ (x ≤ 0) → mWm G y d (pc + 3) L st M Q) : mWm G y d pc L (vi x :: st) M Q := by
  by_cases hc : x ≤ 0
  · exact wm_st (fun p e R s m args below meth c H locs cells slots ls Qf hA hR hL k => lv_if_le hA.1 hA.2.1 hd ht (fun _ => k) (fun q => absurd ((i32_le0 hx).mpr hc) q)) (kt hc)
  · exact wm_st (fun p e R s m args below meth c H locs cells slots ls Qf hA hR hL k => lv_if_le hA.1 hA.2.1 hd ht (fun q => absurd ((i32_le0 hx).mp q) hc) (fun _ => k)) (kf hc)
theorem wm_icmp_le {x z : Int} {off : Int} {tgt : Nat} (hd : decode y.2.1 pc = .ok (.if_icmp .le off, 3)) (ht : (pc : Int) + off = (tgt : Int)) (hx : i32 x) (hz : i32 z) (kt : x ≤ z → mWm G y d tgt L st M Q) (kf : ¬ (x ≤ z) → mWm G y d (pc + 3) L st M Q) : mWm G y d pc L (vi z :: vi x :: st) M Q := by
  by_cases hc : x ≤ z
  · exact wm_st (fun p e R s m args below meth c H locs cells slots ls Qf hA hR hL k => lv_icmp_le hA.1 hA.2.1 hd ht (fun _ => k) (fun q => absurd ((i32_le hx hz).mpr hc) q)) (kt hc)
  · exact wm_st (fun p e R s m args below meth c H locs cells slots ls Qf hA hR hL k => lv_icmp_le hA.1 hA.2.1 hd ht (fun q => absurd ((i32_le hx hz).mp q) hc) (fun _ => k)) (kf hc)
theorem wm_goto {off : Int} {tgt : Nat} (hd : decode y.2.1 pc = .ok (.goto off, 3)) (ht : (pc : Int) + off = (tgt : Int)) (h : mWm G y d tgt L st M Q) : mWm G y d pc L st M Q := wm_st (fun p e R s m args below meth c H locs cells slots ls Qf hA hR hL k => lv_goto hA.1 hA.2.1 hd ht k) h
theorem wm_ifnull {x : Nat} {off : Int} {tgt : Nat} (hd : decode y.2.1 pc = .ok (.ifnull off, 3)) (ht : (pc : Int) + off = (tgt : Int)) (kt : x = 0 → mWm G y d tgt L st M Q) (kf : ¬ x = 0 → mWm G y d (pc + 3) L st M Q) : mWm G y d pc L (vr x :: st) M Q := by
  by_cases hc : x = 0
  · have e9 : mcv (vr x) = .null := if_pos hc
    exact wm_st (fun p e R s m args below meth c H locs cells slots ls Qf hA hR hL k => by
      show W p (gL G) e R s m args below meth c H locs cells slots Qf (F0 m pc ls (mcv (vr x) :: st.map mcv))
      rw [e9]; exact lv_ifnullN hA.1 hA.2.1 hd ht k) (kt hc)
  · have e9 : mcv (vr x) = .ref x := if_neg hc
    exact wm_st (fun p e R s m args below meth c H locs cells slots ls Qf hA hR hL k => by
      show W p (gL G) e R s m args below meth c H locs cells slots Qf (F0 m pc ls (mcv (vr x) :: st.map mcv))
      rw [e9]; exact lv_ifnull hA.1 hA.2.1 hd k) (kf hc)
theorem wm_ifnonnull {x : Nat} {off : Int} {tgt : Nat} (hd : decode y.2.1 pc = .ok (.ifnonnull off, 3)) (ht : (pc : Int) + off = (tgt : Int)) (kt : ¬ x = 0 → mWm G y d tgt L st M Q) (kf : ¬ ¬ x = 0 → mWm G y d (pc + 3) L st M Q) : mWm G y d pc L (vr x :: st) M Q := by
  by_cases hc : x = 0
  · have e9 : mcv (vr x) = .null := if_pos hc
    exact wm_st (fun p e R s m args below meth c H locs cells slots ls Qf hA hR hL k => by
      show W p (gL G) e R s m args below meth c H locs cells slots Qf (F0 m pc ls (mcv (vr x) :: st.map mcv))
      rw [e9]; exact lv_ifnonnullN hA.1 hA.2.1 hd k) (kf (fun q => q hc))
  · have e9 : mcv (vr x) = .ref x := if_neg hc
    exact wm_st (fun p e R s m args below meth c H locs cells slots ls Qf hA hR hL k => by
      show W p (gL G) e R s m args below meth c H locs cells slots Qf (F0 m pc ls (mcv (vr x) :: st.map mcv))
      rw [e9]; exact lv_ifnonnull hA.1 hA.2.1 hd ht k) (kt hc)
end Rules
end
