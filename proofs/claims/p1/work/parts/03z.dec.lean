section
def dcB (c : ByteArray) (p : Nat) : Nat := if h : p < c.size then (c[p]'h).toNat else 256
theorem dcU1 {c : ByteArray} {p b : Nat} (h : dcB c p = b) (hb : b < 256) : (Jvm.ClassFile.Reader.u1 : Jvm.ClassFile.Decoder Nat) c p = .ok (b, p + 1) := by
  unfold dcB at h
  by_cases hp : p < c.size
  · rw [dif_pos hp] at h
    subst h
    simp [Jvm.ClassFile.Reader.u1, hp, MonadReader.read, readThe, MonadReaderOf.read, ReaderT.read, get, getThe, MonadStateOf.get, StateT.get, set, MonadStateOf.set, StateT.set, bind, ReaderT.bind, StateT.bind, Except.bind, Pure.pure, ReaderT.pure, StateT.pure, Except.pure, liftM, monadLift, MonadLift.monadLift, StateT.lift]
  · rw [dif_neg hp] at h; omega
theorem dcU2 {c : ByteArray} {p a b : Nat} (h : dcB c p = a) (ha : a < 256) (h2 : dcB c (p + 1) = b) (hb : b < 256) : (Jvm.ClassFile.Reader.u2 : Jvm.ClassFile.Decoder Nat) c p = .ok (a * 256 + b, p + 2) := by
  have e1 := dcU1 h ha
  have e2 := dcU1 h2 hb
  simp [Jvm.ClassFile.Reader.u2, bind, ReaderT.bind, StateT.bind, Except.bind, e1, e2, Pure.pure, ReaderT.pure, StateT.pure, Except.pure]
theorem dcK {c : ByteArray} {pc b n : Nat} {i : Jvm.ClassFile.Instr} {f : Nat → Jvm.ClassFile.Decoder Jvm.ClassFile.Instr} (h : dcB c pc = b) (hb : b < 256) (hf : Jvm.ClassFile.Decoder.instr pc = (Jvm.ClassFile.Reader.u1 >>= f)) (hi : f b c (pc + 1) = .ok (i, pc + n)) : decode c pc = .ok (i, n) := by
  have hu := dcU1 h hb
  unfold decode Jvm.ClassFile.Reader.runAt
  rw [hf]
  simp [ReaderT.run, StateT.run, bind, ReaderT.bind, StateT.bind, Except.bind, hu, hi, Pure.pure, Except.pure]
def dcL (c : ByteArray) (p : Nat) : List UInt8 := c.data.toList.drop p
theorem dcL_B {c : ByteArray} {p : Nat} {a : UInt8} {l : List UInt8} (h : dcL c p = a :: l) : dcB c p = a.toNat := by
  have h1 : c.data.toList[p]? = some a := by
    have := congrArg (fun x : List UInt8 => x[0]?) h
    simpa [dcL, List.getElem?_drop] using this
  obtain ⟨hp, e⟩ := List.getElem?_eq_some_iff.1 h1
  unfold dcB
  have hs : p < c.size := hp
  rw [dif_pos hs]
  have e2 : c[p]'hs = a := e
  rw [e2]
theorem dcL_T {c : ByteArray} {p : Nat} {a : UInt8} {l : List UInt8} (h : dcL c p = a :: l) : dcL c (p + 1) = l := by
  have e := congrArg List.tail h
  unfold dcL at *
  rw [List.tail_drop] at e
  exact e
theorem dcL_1 {c : ByteArray} {p : Nat} {a : UInt8} {l : List UInt8} (h : dcL c p = a :: l) : (Jvm.ClassFile.Reader.u1 : Jvm.ClassFile.Decoder Nat) c p = .ok (a.toNat, p + 1) := dcU1 (dcL_B h) a.toNat_lt
theorem dcL_2 {c : ByteArray} {p : Nat} {a b : UInt8} {l : List UInt8} (h : dcL c p = a :: b :: l) : (Jvm.ClassFile.Reader.u2 : Jvm.ClassFile.Decoder Nat) c p = .ok (a.toNat * 256 + b.toNat, p + 2) := dcU2 (dcL_B h) a.toNat_lt (dcL_B (dcL_T h)) b.toNat_lt
def dcq0 (c : ByteArray) (pc k : Nat) : Bool := match dcL c pc with | a :: _ => Nat.beq a.toNat k | _ => false
theorem dcK0 {c : ByteArray} {pc b : Nat} {i : Jvm.ClassFile.Instr} {f : Nat → Jvm.ClassFile.Decoder Jvm.ClassFile.Instr} (h : dcq0 c pc b = true) (hb : b < 256) (hf : Jvm.ClassFile.Decoder.instr pc = (Jvm.ClassFile.Reader.u1 >>= f)) (hg : f b = Pure.pure i) : decode c pc = .ok (i, 1) := by
  unfold dcq0 at h
  split at h
  · rename_i a l e
    exact dcK ((dcL_B e).trans (Nat.eq_of_beq_eq_true h)) hb hf (by rw [hg]; rfl)
  · cases h
def dcq1 (c : ByteArray) (pc k i : Nat) : Bool := match dcL c pc with | a :: d :: _ => Nat.beq a.toNat k && Nat.beq d.toNat i | _ => false
theorem dcK1 {c : ByteArray} {pc b i : Nat} (g : Nat → Jvm.ClassFile.Instr) {f : Nat → Jvm.ClassFile.Decoder Jvm.ClassFile.Instr} (h : dcq1 c pc b i = true) (hb : b < 256) (hf : Jvm.ClassFile.Decoder.instr pc = (Jvm.ClassFile.Reader.u1 >>= f)) (hg : f b = (Jvm.ClassFile.Reader.u1 >>= fun x => Pure.pure (g x))) : decode c pc = .ok (g i, 2) := by
  unfold dcq1 at h
  split at h
  · rename_i a d l e
    rw [Bool.and_eq_true] at h
    have e1 := dcL_1 (dcL_T e)
    rw [Nat.eq_of_beq_eq_true h.2] at e1
    refine dcK ((dcL_B e).trans (Nat.eq_of_beq_eq_true h.1)) hb hf ?_
    rw [hg]
    simp [bind, ReaderT.bind, StateT.bind, Except.bind, Pure.pure, ReaderT.pure, StateT.pure, Except.pure, e1]
  · cases h
def dcs1 (c : ByteArray) (pc k : Nat) (o : Int) : Bool := match dcL c pc with | a :: d :: _ => Nat.beq a.toNat k && decide (Jvm.ClassFile.Reader.signed 8 d.toNat = o) | _ => false
theorem dcKs1 {c : ByteArray} {pc b : Nat} {o : Int} (g : Int → Jvm.ClassFile.Instr) {f : Nat → Jvm.ClassFile.Decoder Jvm.ClassFile.Instr} (h : dcs1 c pc b o = true) (hb : b < 256) (hf : Jvm.ClassFile.Decoder.instr pc = (Jvm.ClassFile.Reader.u1 >>= f)) (hg : f b = (Jvm.ClassFile.Reader.s1 >>= fun x => Pure.pure (g x))) : decode c pc = .ok (g o, 2) := by
  unfold dcs1 at h
  split at h
  · rename_i a d l e
    rw [Bool.and_eq_true] at h
    have e1 := dcL_1 (dcL_T e)
    have h3 := of_decide_eq_true h.2
    refine dcK ((dcL_B e).trans (Nat.eq_of_beq_eq_true h.1)) hb hf ?_
    rw [hg]
    simp [Jvm.ClassFile.Reader.s1, Functor.map, StateT.map, bind, ReaderT.bind, StateT.bind, Except.bind, Pure.pure, ReaderT.pure, StateT.pure, Except.pure, e1, h3]
  · cases h
def dcq2 (c : ByteArray) (pc k i : Nat) : Bool := match dcL c pc with | a :: d :: e :: _ => Nat.beq a.toNat k && Nat.beq (d.toNat * 256 + e.toNat) i | _ => false
theorem dcK2 {c : ByteArray} {pc b i : Nat} (g : Nat → Jvm.ClassFile.Instr) {f : Nat → Jvm.ClassFile.Decoder Jvm.ClassFile.Instr} (h : dcq2 c pc b i = true) (hb : b < 256) (hf : Jvm.ClassFile.Decoder.instr pc = (Jvm.ClassFile.Reader.u1 >>= f)) (hg : f b = (Jvm.ClassFile.Reader.u2 >>= fun x => Pure.pure (g x))) : decode c pc = .ok (g i, 3) := by
  unfold dcq2 at h
  split at h
  · rename_i a d d2 l e
    rw [Bool.and_eq_true] at h
    have e1 := dcL_2 (dcL_T e)
    rw [Nat.eq_of_beq_eq_true h.2] at e1
    refine dcK ((dcL_B e).trans (Nat.eq_of_beq_eq_true h.1)) hb hf ?_
    rw [hg]
    simp [bind, ReaderT.bind, StateT.bind, Except.bind, Pure.pure, ReaderT.pure, StateT.pure, Except.pure, e1]
  · cases h
def dcs2 (c : ByteArray) (pc k : Nat) (o : Int) : Bool := match dcL c pc with | a :: d :: e :: _ => Nat.beq a.toNat k && decide (Jvm.ClassFile.Reader.signed 16 (d.toNat * 256 + e.toNat) = o) | _ => false
theorem dcKs2 {c : ByteArray} {pc b : Nat} {o : Int} (g : Int → Jvm.ClassFile.Instr) {f : Nat → Jvm.ClassFile.Decoder Jvm.ClassFile.Instr} (h : dcs2 c pc b o = true) (hb : b < 256) (hf : Jvm.ClassFile.Decoder.instr pc = (Jvm.ClassFile.Reader.u1 >>= f)) (hg : f b = (Jvm.ClassFile.Reader.s2 >>= fun x => Pure.pure (g x))) : decode c pc = .ok (g o, 3) := by
  unfold dcs2 at h
  split at h
  · rename_i a d d2 l e
    rw [Bool.and_eq_true] at h
    have e1 := dcL_2 (dcL_T e)
    have h3 := of_decide_eq_true h.2
    refine dcK ((dcL_B e).trans (Nat.eq_of_beq_eq_true h.1)) hb hf ?_
    rw [hg]
    have e5 : (Jvm.ClassFile.Reader.s2 : Jvm.ClassFile.Decoder Int) c (pc + 1) = .ok (o, pc + 3) := by
      simp [Jvm.ClassFile.Reader.s2, Functor.map, StateT.map, bind, ReaderT.bind, StateT.bind, Except.bind, Pure.pure, ReaderT.pure, StateT.pure, Except.pure, e1, h3]
    simp [bind, ReaderT.bind, StateT.bind, Except.bind, Pure.pure, ReaderT.pure, StateT.pure, Except.pure, e5]
  · cases h
set_option maxRecDepth 100000 in
theorem dc9_1 {c : ByteArray} {pc : Nat} (h : dcq0 c pc 1 = true) : decode c pc = .ok (.aconst_null, 1) := dcK0 h (by decide) rfl rfl
set_option maxRecDepth 100000 in
theorem dc9_2 {c : ByteArray} {pc : Nat} (h : dcq0 c pc 2 = true) : decode c pc = .ok (.iconst (-1), 1) := dcK0 h (by decide) rfl rfl
set_option maxRecDepth 100000 in
theorem dc9_3 {c : ByteArray} {pc : Nat} (h : dcq0 c pc 3 = true) : decode c pc = .ok (.iconst 0, 1) := dcK0 h (by decide) rfl rfl
set_option maxRecDepth 100000 in
theorem dc9_4 {c : ByteArray} {pc : Nat} (h : dcq0 c pc 4 = true) : decode c pc = .ok (.iconst 1, 1) := dcK0 h (by decide) rfl rfl
set_option maxRecDepth 100000 in
theorem dc9_5 {c : ByteArray} {pc : Nat} (h : dcq0 c pc 5 = true) : decode c pc = .ok (.iconst 2, 1) := dcK0 h (by decide) rfl rfl
set_option maxRecDepth 100000 in
theorem dc9_6 {c : ByteArray} {pc : Nat} (h : dcq0 c pc 6 = true) : decode c pc = .ok (.iconst 3, 1) := dcK0 h (by decide) rfl rfl
set_option maxRecDepth 100000 in
theorem dc9_7 {c : ByteArray} {pc : Nat} (h : dcq0 c pc 7 = true) : decode c pc = .ok (.iconst 4, 1) := dcK0 h (by decide) rfl rfl
set_option maxRecDepth 100000 in
theorem dc9_8 {c : ByteArray} {pc : Nat} (h : dcq0 c pc 8 = true) : decode c pc = .ok (.iconst 5, 1) := dcK0 h (by decide) rfl rfl
set_option maxRecDepth 100000 in
theorem dc9_9 {c : ByteArray} {pc : Nat} (h : dcq0 c pc 9 = true) : decode c pc = .ok (.lconst 0, 1) := dcK0 h (by decide) rfl rfl
set_option maxRecDepth 100000 in
theorem dc9_10 {c : ByteArray} {pc : Nat} (h : dcq0 c pc 10 = true) : decode c pc = .ok (.lconst 1, 1) := dcK0 h (by decide) rfl rfl
set_option maxRecDepth 100000 in
theorem dc9_16 {c : ByteArray} {pc : Nat} {o : Int} (h : dcs1 c pc 16 o = true) : decode c pc = .ok (.bipush o, 2) := dcKs1 .bipush h (by decide) rfl rfl
set_option maxRecDepth 100000 in
theorem dc9_17 {c : ByteArray} {pc : Nat} {o : Int} (h : dcs2 c pc 17 o = true) : decode c pc = .ok (.sipush o, 3) := dcKs2 (fun x => .sipush x) h (by decide) rfl rfl
set_option maxRecDepth 100000 in
theorem dc9_20 {c : ByteArray} {pc : Nat} {i : Nat} (h : dcq2 c pc 20 i = true) : decode c pc = .ok (.ldc2_w i, 3) := dcK2 .ldc2_w h (by decide) rfl rfl
set_option maxRecDepth 100000 in
theorem dc9_21 {c : ByteArray} {pc : Nat} {i : Nat} (h : dcq1 c pc 21 i = true) : decode c pc = .ok (.iload i, 2) := dcK1 .iload h (by decide) rfl rfl
set_option maxRecDepth 100000 in
theorem dc9_25 {c : ByteArray} {pc : Nat} {i : Nat} (h : dcq1 c pc 25 i = true) : decode c pc = .ok (.aload i, 2) := dcK1 .aload h (by decide) rfl rfl
set_option maxRecDepth 100000 in
theorem dc9_27 {c : ByteArray} {pc : Nat} (h : dcq0 c pc 27 = true) : decode c pc = .ok (.iload_n 1, 1) := dcK0 h (by decide) rfl rfl
set_option maxRecDepth 100000 in
theorem dc9_28 {c : ByteArray} {pc : Nat} (h : dcq0 c pc 28 = true) : decode c pc = .ok (.iload_n 2, 1) := dcK0 h (by decide) rfl rfl
set_option maxRecDepth 100000 in
theorem dc9_29 {c : ByteArray} {pc : Nat} (h : dcq0 c pc 29 = true) : decode c pc = .ok (.iload_n 3, 1) := dcK0 h (by decide) rfl rfl
set_option maxRecDepth 100000 in
theorem dc9_31 {c : ByteArray} {pc : Nat} (h : dcq0 c pc 31 = true) : decode c pc = .ok (.lload_n 1, 1) := dcK0 h (by decide) rfl rfl
set_option maxRecDepth 100000 in
theorem dc9_33 {c : ByteArray} {pc : Nat} (h : dcq0 c pc 33 = true) : decode c pc = .ok (.lload_n 3, 1) := dcK0 h (by decide) rfl rfl
set_option maxRecDepth 100000 in
theorem dc9_42 {c : ByteArray} {pc : Nat} (h : dcq0 c pc 42 = true) : decode c pc = .ok (.aload_n 0, 1) := dcK0 h (by decide) rfl rfl
set_option maxRecDepth 100000 in
theorem dc9_43 {c : ByteArray} {pc : Nat} (h : dcq0 c pc 43 = true) : decode c pc = .ok (.aload_n 1, 1) := dcK0 h (by decide) rfl rfl
set_option maxRecDepth 100000 in
theorem dc9_44 {c : ByteArray} {pc : Nat} (h : dcq0 c pc 44 = true) : decode c pc = .ok (.aload_n 2, 1) := dcK0 h (by decide) rfl rfl
set_option maxRecDepth 100000 in
theorem dc9_45 {c : ByteArray} {pc : Nat} (h : dcq0 c pc 45 = true) : decode c pc = .ok (.aload_n 3, 1) := dcK0 h (by decide) rfl rfl
set_option maxRecDepth 100000 in
theorem dc9_46 {c : ByteArray} {pc : Nat} (h : dcq0 c pc 46 = true) : decode c pc = .ok (.iaload, 1) := dcK0 h (by decide) rfl rfl
set_option maxRecDepth 100000 in
theorem dc9_51 {c : ByteArray} {pc : Nat} (h : dcq0 c pc 51 = true) : decode c pc = .ok (.baload, 1) := dcK0 h (by decide) rfl rfl
set_option maxRecDepth 100000 in
theorem dc9_52 {c : ByteArray} {pc : Nat} (h : dcq0 c pc 52 = true) : decode c pc = .ok (.caload, 1) := dcK0 h (by decide) rfl rfl
set_option maxRecDepth 100000 in
theorem dc9_54 {c : ByteArray} {pc : Nat} {i : Nat} (h : dcq1 c pc 54 i = true) : decode c pc = .ok (.istore i, 2) := dcK1 .istore h (by decide) rfl rfl
set_option maxRecDepth 100000 in
theorem dc9_58 {c : ByteArray} {pc : Nat} {i : Nat} (h : dcq1 c pc 58 i = true) : decode c pc = .ok (.astore i, 2) := dcK1 .astore h (by decide) rfl rfl
set_option maxRecDepth 100000 in
theorem dc9_60 {c : ByteArray} {pc : Nat} (h : dcq0 c pc 60 = true) : decode c pc = .ok (.istore_n 1, 1) := dcK0 h (by decide) rfl rfl
set_option maxRecDepth 100000 in
theorem dc9_61 {c : ByteArray} {pc : Nat} (h : dcq0 c pc 61 = true) : decode c pc = .ok (.istore_n 2, 1) := dcK0 h (by decide) rfl rfl
set_option maxRecDepth 100000 in
theorem dc9_62 {c : ByteArray} {pc : Nat} (h : dcq0 c pc 62 = true) : decode c pc = .ok (.istore_n 3, 1) := dcK0 h (by decide) rfl rfl
set_option maxRecDepth 100000 in
theorem dc9_66 {c : ByteArray} {pc : Nat} (h : dcq0 c pc 66 = true) : decode c pc = .ok (.lstore_n 3, 1) := dcK0 h (by decide) rfl rfl
set_option maxRecDepth 100000 in
theorem dc9_76 {c : ByteArray} {pc : Nat} (h : dcq0 c pc 76 = true) : decode c pc = .ok (.astore_n 1, 1) := dcK0 h (by decide) rfl rfl
set_option maxRecDepth 100000 in
theorem dc9_77 {c : ByteArray} {pc : Nat} (h : dcq0 c pc 77 = true) : decode c pc = .ok (.astore_n 2, 1) := dcK0 h (by decide) rfl rfl
set_option maxRecDepth 100000 in
theorem dc9_78 {c : ByteArray} {pc : Nat} (h : dcq0 c pc 78 = true) : decode c pc = .ok (.astore_n 3, 1) := dcK0 h (by decide) rfl rfl
set_option maxRecDepth 100000 in
theorem dc9_79 {c : ByteArray} {pc : Nat} (h : dcq0 c pc 79 = true) : decode c pc = .ok (.iastore, 1) := dcK0 h (by decide) rfl rfl
set_option maxRecDepth 100000 in
theorem dc9_83 {c : ByteArray} {pc : Nat} (h : dcq0 c pc 83 = true) : decode c pc = .ok (.aastore, 1) := dcK0 h (by decide) rfl rfl
set_option maxRecDepth 100000 in
theorem dc9_85 {c : ByteArray} {pc : Nat} (h : dcq0 c pc 85 = true) : decode c pc = .ok (.castore, 1) := dcK0 h (by decide) rfl rfl
set_option maxRecDepth 100000 in
theorem dc9_89 {c : ByteArray} {pc : Nat} (h : dcq0 c pc 89 = true) : decode c pc = .ok (.dup, 1) := dcK0 h (by decide) rfl rfl
set_option maxRecDepth 100000 in
theorem dc9_90 {c : ByteArray} {pc : Nat} (h : dcq0 c pc 90 = true) : decode c pc = .ok (.dup_x1, 1) := dcK0 h (by decide) rfl rfl
set_option maxRecDepth 100000 in
theorem dc9_96 {c : ByteArray} {pc : Nat} (h : dcq0 c pc 96 = true) : decode c pc = .ok (.iadd, 1) := dcK0 h (by decide) rfl rfl
set_option maxRecDepth 100000 in
theorem dc9_100 {c : ByteArray} {pc : Nat} (h : dcq0 c pc 100 = true) : decode c pc = .ok (.isub, 1) := dcK0 h (by decide) rfl rfl
set_option maxRecDepth 100000 in
theorem dc9_104 {c : ByteArray} {pc : Nat} (h : dcq0 c pc 104 = true) : decode c pc = .ok (.imul, 1) := dcK0 h (by decide) rfl rfl
set_option maxRecDepth 100000 in
theorem dc9_122 {c : ByteArray} {pc : Nat} (h : dcq0 c pc 122 = true) : decode c pc = .ok (.ishr, 1) := dcK0 h (by decide) rfl rfl
set_option maxRecDepth 100000 in
theorem dc9_123 {c : ByteArray} {pc : Nat} (h : dcq0 c pc 123 = true) : decode c pc = .ok (.lshr, 1) := dcK0 h (by decide) rfl rfl
set_option maxRecDepth 100000 in
theorem dc9_124 {c : ByteArray} {pc : Nat} (h : dcq0 c pc 124 = true) : decode c pc = .ok (.iushr, 1) := dcK0 h (by decide) rfl rfl
set_option maxRecDepth 100000 in
theorem dc9_126 {c : ByteArray} {pc : Nat} (h : dcq0 c pc 126 = true) : decode c pc = .ok (.iand, 1) := dcK0 h (by decide) rfl rfl
set_option maxRecDepth 100000 in
theorem dc9_127 {c : ByteArray} {pc : Nat} (h : dcq0 c pc 127 = true) : decode c pc = .ok (.land, 1) := dcK0 h (by decide) rfl rfl
set_option maxRecDepth 100000 in
theorem dc9_136 {c : ByteArray} {pc : Nat} (h : dcq0 c pc 136 = true) : decode c pc = .ok (.l2i, 1) := dcK0 h (by decide) rfl rfl
set_option maxRecDepth 100000 in
theorem dc9_146 {c : ByteArray} {pc : Nat} (h : dcq0 c pc 146 = true) : decode c pc = .ok (.i2c, 1) := dcK0 h (by decide) rfl rfl
set_option maxRecDepth 100000 in
theorem dc9_148 {c : ByteArray} {pc : Nat} (h : dcq0 c pc 148 = true) : decode c pc = .ok (.lcmp, 1) := dcK0 h (by decide) rfl rfl
set_option maxRecDepth 100000 in
theorem dc9_153 {c : ByteArray} {pc : Nat} {o : Int} (h : dcs2 c pc 153 o = true) : decode c pc = .ok (.ifCond .eq o, 3) := dcKs2 (fun x => .ifCond .eq x) h (by decide) rfl rfl
set_option maxRecDepth 100000 in
theorem dc9_154 {c : ByteArray} {pc : Nat} {o : Int} (h : dcs2 c pc 154 o = true) : decode c pc = .ok (.ifCond .ne o, 3) := dcKs2 (fun x => .ifCond .ne x) h (by decide) rfl rfl
set_option maxRecDepth 100000 in
theorem dc9_155 {c : ByteArray} {pc : Nat} {o : Int} (h : dcs2 c pc 155 o = true) : decode c pc = .ok (.ifCond .lt o, 3) := dcKs2 (fun x => .ifCond .lt x) h (by decide) rfl rfl
set_option maxRecDepth 100000 in
theorem dc9_156 {c : ByteArray} {pc : Nat} {o : Int} (h : dcs2 c pc 156 o = true) : decode c pc = .ok (.ifCond .ge o, 3) := dcKs2 (fun x => .ifCond .ge x) h (by decide) rfl rfl
set_option maxRecDepth 100000 in
theorem dc9_158 {c : ByteArray} {pc : Nat} {o : Int} (h : dcs2 c pc 158 o = true) : decode c pc = .ok (.ifCond .le o, 3) := dcKs2 (fun x => .ifCond .le x) h (by decide) rfl rfl
set_option maxRecDepth 100000 in
theorem dc9_159 {c : ByteArray} {pc : Nat} {o : Int} (h : dcs2 c pc 159 o = true) : decode c pc = .ok (.if_icmp .eq o, 3) := dcKs2 (fun x => .if_icmp .eq x) h (by decide) rfl rfl
set_option maxRecDepth 100000 in
theorem dc9_160 {c : ByteArray} {pc : Nat} {o : Int} (h : dcs2 c pc 160 o = true) : decode c pc = .ok (.if_icmp .ne o, 3) := dcKs2 (fun x => .if_icmp .ne x) h (by decide) rfl rfl
set_option maxRecDepth 100000 in
theorem dc9_161 {c : ByteArray} {pc : Nat} {o : Int} (h : dcs2 c pc 161 o = true) : decode c pc = .ok (.if_icmp .lt o, 3) := dcKs2 (fun x => .if_icmp .lt x) h (by decide) rfl rfl
set_option maxRecDepth 100000 in
theorem dc9_162 {c : ByteArray} {pc : Nat} {o : Int} (h : dcs2 c pc 162 o = true) : decode c pc = .ok (.if_icmp .ge o, 3) := dcKs2 (fun x => .if_icmp .ge x) h (by decide) rfl rfl
set_option maxRecDepth 100000 in
theorem dc9_163 {c : ByteArray} {pc : Nat} {o : Int} (h : dcs2 c pc 163 o = true) : decode c pc = .ok (.if_icmp .gt o, 3) := dcKs2 (fun x => .if_icmp .gt x) h (by decide) rfl rfl
set_option maxRecDepth 100000 in
theorem dc9_164 {c : ByteArray} {pc : Nat} {o : Int} (h : dcs2 c pc 164 o = true) : decode c pc = .ok (.if_icmp .le o, 3) := dcKs2 (fun x => .if_icmp .le x) h (by decide) rfl rfl
set_option maxRecDepth 100000 in
theorem dc9_167 {c : ByteArray} {pc : Nat} {o : Int} (h : dcs2 c pc 167 o = true) : decode c pc = .ok (.goto o, 3) := dcKs2 (fun x => .goto x) h (by decide) rfl rfl
set_option maxRecDepth 100000 in
theorem dc9_172 {c : ByteArray} {pc : Nat} (h : dcq0 c pc 172 = true) : decode c pc = .ok (.ireturn, 1) := dcK0 h (by decide) rfl rfl
set_option maxRecDepth 100000 in
theorem dc9_176 {c : ByteArray} {pc : Nat} (h : dcq0 c pc 176 = true) : decode c pc = .ok (.areturn, 1) := dcK0 h (by decide) rfl rfl
set_option maxRecDepth 100000 in
theorem dc9_177 {c : ByteArray} {pc : Nat} (h : dcq0 c pc 177 = true) : decode c pc = .ok (.return_, 1) := dcK0 h (by decide) rfl rfl
set_option maxRecDepth 100000 in
theorem dc9_180 {c : ByteArray} {pc : Nat} {i : Nat} (h : dcq2 c pc 180 i = true) : decode c pc = .ok (.getfield i, 3) := dcK2 .getfield h (by decide) rfl rfl
set_option maxRecDepth 100000 in
theorem dc9_181 {c : ByteArray} {pc : Nat} {i : Nat} (h : dcq2 c pc 181 i = true) : decode c pc = .ok (.putfield i, 3) := dcK2 .putfield h (by decide) rfl rfl
set_option maxRecDepth 100000 in
theorem dc9_182 {c : ByteArray} {pc : Nat} {i : Nat} (h : dcq2 c pc 182 i = true) : decode c pc = .ok (.invokevirtual i, 3) := dcK2 .invokevirtual h (by decide) rfl rfl
set_option maxRecDepth 100000 in
theorem dc9_183 {c : ByteArray} {pc : Nat} {i : Nat} (h : dcq2 c pc 183 i = true) : decode c pc = .ok (.invokespecial i, 3) := dcK2 .invokespecial h (by decide) rfl rfl
set_option maxRecDepth 100000 in
theorem dc9_184 {c : ByteArray} {pc : Nat} {i : Nat} (h : dcq2 c pc 184 i = true) : decode c pc = .ok (.invokestatic i, 3) := dcK2 .invokestatic h (by decide) rfl rfl
set_option maxRecDepth 100000 in
theorem dc9_187 {c : ByteArray} {pc : Nat} {i : Nat} (h : dcq2 c pc 187 i = true) : decode c pc = .ok (.new i, 3) := dcK2 .new h (by decide) rfl rfl
set_option maxRecDepth 100000 in
theorem dc9_189 {c : ByteArray} {pc : Nat} {i : Nat} (h : dcq2 c pc 189 i = true) : decode c pc = .ok (.anewarray i, 3) := dcK2 .anewarray h (by decide) rfl rfl
set_option maxRecDepth 100000 in
theorem dc9_190 {c : ByteArray} {pc : Nat} (h : dcq0 c pc 190 = true) : decode c pc = .ok (.arraylength, 1) := dcK0 h (by decide) rfl rfl
set_option maxRecDepth 100000 in
theorem dc9_198 {c : ByteArray} {pc : Nat} {o : Int} (h : dcs2 c pc 198 o = true) : decode c pc = .ok (.ifnull o, 3) := dcKs2 (fun x => .ifnull x) h (by decide) rfl rfl
set_option maxRecDepth 100000 in
theorem dc9_199 {c : ByteArray} {pc : Nat} {o : Int} (h : dcs2 c pc 199 o = true) : decode c pc = .ok (.ifnonnull o, 3) := dcKs2 (fun x => .ifnonnull x) h (by decide) rfl rfl
end
