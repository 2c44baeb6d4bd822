section
/-! The eight methods of the class that throw: nothing has changed but that an exception was made (kind 50: nobody looks into it). -/
def mQt (G : mG) (M : mM) (cls : String) : Array Value → State → Outcome → State → Prop := fun _ st oc t => ∃ (a : Nat) (ce : Cell), oc = .threw a ∧ t.heap[a]? = some ce ∧ ce.vm = .none ∧ st.vm.findClass cls = some ce.cls ∧ mRep G (mNew M 50 0 6) t.heap
/-- a call of y throws an exception of the class cls -/
def mCt (G : mG) (y : mY) (d : Nat) (args : List mV) (M : mM) (cls : String) : Prop := xM (gL G) y.1 (zW (yC y)) { frames := d, cells := 1, slots := 6, locals := 64 * d } (va_Pc (args.map mcv) (mPre G M)) (mQt G M cls) 1 6 (mOwn G)
/-- what a throw asks of the launch and of the law's start -/
def TH (G : mG) : Prop := (gL G).stackTraces = false ∧ zS2 (gB G) (gS G) (gS G).heap
section THR
variable {G : mG} {y : mY} {d pc : Nat} {L : List mV} {M : mM} {H H1 : Heap}
theorem mRep.threw (hR : mRep G M H) (hk : ∀ (q : Nat) (c0 : Cell), H[q]? = some c0 → H1[q]? = some c0) (hs : H1.size = H.size + 1) : mRep G (mNew M 50 0 6) H1 := by
  have k : mK (mNew M 50 0 6) (mZ M) = 50 := by rw [mK_New, if_pos rfl]
  refine hR.new hs (fun q hq => ?_) ⟨fun c r t hK hc ht => ?_, fun t ty hK hty => ?_, fun hK => ?_⟩
  · have e : H[q]? = some H[q] := Array.getElem?_eq_getElem hq
    rw [e]
    exact hk q _ e
  · rw [k] at hK
    have : c = 49 := by omega
    subst this
    cases hc
  · rw [k] at hK
    have : t = 20 := by omega
    subst this
    cases hty
  · rw [k] at hK
    cases hK
theorem mCt.of {cls : String} {ic ix : Nat} {args : List mV} (hT : TH G) (hy : y.1.cls = "ChanceArena") (hlen : (mEnt args).length ≤ y.2.2.1) (hL : mEnt args ++ List.replicate (y.2.2.1 - (mEnt args).length) vd = L) (hcls : Bundle.fit cls = true) (hat : ∀ w ∈ Bundle.ownAtoms0 "ChanceArena" ic cls zRun2, w ∈ zSpec ∨ (w ∈ tables_1 ∧ zRide w = true)) (k1 : Cond.classLink "ChanceArena" ix cls ∈ lw_R) (k2 : Cond.initialized cls ∈ lw_R)
    (hd0 : decode y.2.1 pc = .ok (.new ix, 3)) (hd3 : decode y.2.1 (pc + 3) = .ok (.dup, 1)) (hd4 : decode y.2.1 (pc + 4) = .ok (.invokespecial ic, 3)) (hd7 : decode y.2.1 (pc + 7) = .ok (.athrow, 1)) (h6 : 6 ≤ d) (go : mGo G y d L M 0 [] pc []) : mCt G y d args M cls := by
  refine xOfW (cc := y.2.1) (maxL := y.2.2.1) (ret := y.2.2.2) (by rw [hy]; rfl) rfl ?_
  intro p e s m args9 below meth c s₁ B hml hv
  obtain ⟨rfl, hRep, hK, hh, hal⟩ := hv
  have hl := lv_entry (args.map mcv) (n := y.2.2.1) (by rw [mEnt_len]; exact hlen)
  rw [lg_entry_eq]
  generalize (lg_sl (args.map mcv) ++ List.replicate (y.2.2.1 - (lg_sl (args.map mcv)).length) Slot.unset).toArray = ls at hl ⊢
  have hLs : mLs ls y.2.2.1 L := by
    refine ⟨hl.1, hl.2.1, fun i v hi hv => ?_⟩
    rw [← hL] at hi
    by_cases q : i < (mEnt args).length
    · rw [List.getElem?_append_left q] at hi
      have := mEnt_args args 0 i v hi hv
      rw [Nat.zero_add] at this
      exact hl.2.2 _ this
    · rw [List.getElem?_append_right (by omega)] at hi
      have := List.mem_of_getElem? hi
      rw [List.eq_of_mem_replicate this] at hv
      cases hv
  have ht : ∀ x ∈ c.exceptionTable.toList, False := by
    obtain ⟨meth9, c9, h1, h2, -, -, -, -, h7, -⟩ := Cond.code_spec B.named (atoms_spec (ws := zW (yC y)) B.pre _ List.mem_cons_self)
    cases Option.some.inj (h1.symm.trans B.method)
    cases Option.some.inj (h2.symm.trans (Stand.of_body B).code)
    intro x hx
    rw [Array.isEmpty_iff.mp h7] at hx
    cases hx
  have hpl : e.platform.stackTraces = false := by rw [(Stand.of_body B).admits.platform]; exact hT.1
  have h2 : zS2 (gB G) s s.heap := (hT.2.moved hal.1).kept (fun a ha => hRep.2.2.2.2.1 a ha)
  refine go p e (headSpec (zW (yC y)) { frames := d, cells := 1, slots := 6, locals := 64 * d }).room s m (args.map mcv).toArray below meth c s.heap [] 0 0 ls _ ⟨B.exec, B.bytes, hml, B.returns, B.notSynchronized, (name_of_methodNamed B.named B.method).1, findClass_of_methodNamed B.named, hK, hh.use _, hh, hal, Nat.le_refl _, Nat.le_refl _⟩ hRep hLs (Nat.zero_le _) (Nat.zero_le _) ?_
  refine xThrow (cells := 0) (slots := 0) (names := zRun2) B.exec B.bytes hpl hml hLs.1 (own := "ChanceArena") (by rw [← hy]; exact findClass_of_methodNamed B.named) B.notSynchronized hcls (by decide) (fun w hw => (hat w hw).elim (fun h => h2.words w h) (fun h => hh.use _ w (zR (List.mem_append_right _ h.1) h.2))) (hh.use _ _ k1) (hh.use _ _ k2) (fun x h => absurd (ht x h) id) (Nat.le_refl _) hd0 hd3 hd4 hd7 (Nat.le_refl _) (Nat.le_refl _) (by show 2 + 3 < d; omega) (by show 8 + (13 * (2 + 1) + 41) ≤ 64 * d; omega) ?_
  intro t ce q1 q2 q3 q4 q5 q6
  have lt := (Array.getElem?_eq_some_iff.mp q1).1
  exact ⟨s.heap.size, ce, rfl, q1, q2, q3, hRep.threw q4 (by omega)⟩
end THR
end
section
/-! An exception that comes out of a call is caught here: the row's class may be resolved by the search itself. -/
def xFinds (e : Env) (s : State) (f : JFrame) (a : Addr) (h : Handler) (vm9 : Vm) : Prop :=
  ∀ (Q : Handler → Pre) (E : CtlPost) (d : Bool) (acts : List Action), wp (findHandler f a) Q E e d acts s ↔ Q h d acts (s.setVm vm9)
section Go
variable {Q : Handler → Pre} {E : CtlPost} {e : Env} {d : Bool} {acts : List Action} {s : State} {f : JFrame} {a : Addr}
/-- a row that covers the place: its class is resolved; the object is of it, or the search goes on -/
theorem xGo {x : ExceptionTableEntry} {t : List ExceptionTableEntry} {c : ClassId} {cell : Cell} (hx : covers x f.pc = true) (h0 : x.catchType ≠ 0)
    (hl : s.vm.ClassLinks e.platform f.method.cls x.catchType c) (hcell : s.heap[a]? = some cell) (hobj : ∀ k, cell.vm ≠ .statics k)
    (hk : ∃ k, s.vm.classes[cell.cls]? = some k) (hc : ∃ k, s.vm.classes[c]? = some k) {b : Bool} (hfit : s.vm.assignable cell.cls c = b) :
    wp (findHandler.go f a (x :: t)) Q E e d acts s ↔ if b = true then Q (.found x.handlerPc) d acts (s.setVm (s.vm.noted f.method.cls x.catchType (.cls c))) else wp (findHandler.go f a t) Q E e d acts (s.setVm (s.vm.noted f.method.cls x.catchType (.cls c))) := by
  simp only [covers] at hx
  obtain ⟨ha, ht⟩ := (resolveClass_links e.toSetting hl).op (op := VmOp.resolveClass f.method.cls x.catchType) rfl
  have hal : s.vm.Alike (s.vm.noted f.method.cls x.catchType (.cls c)) := (Vm.Alike.refl s.vm).noted _ _ _
  obtain ⟨k1, hk1⟩ := hk
  obtain ⟨k2, hk2⟩ := hc
  obtain ⟨k3, hk3, -⟩ := hal.2.2 _ _ hk1
  obtain ⟨k4, hk4, -⟩ := hal.2.2 _ _ hk2
  have hfit9 : (s.vm.noted f.method.cls x.catchType (.cls c)).assignable cell.cls c = b := by rw [hal.assignable]; exact hfit
  cases b <;> simp [findHandler.go, hx, h0, ha, ht, hcell, hobj, hk3, hk4, hfit9, VmOp.dirties, VmOp.acts]
end Go
theorem xStep {e : Env} {s : State} {a : Addr} {f : JFrame} {r : List Frame} {pc : Nat} {vm9 : Vm} (hfind : xFinds e s f a (.found pc) vm9) :
    (stepThrowing e s a (.java f :: r)).Is ((s.setVm vm9).setFrames (.java { f with pc := pc, stack := [.ref a] } :: r)) [] := by
  simp only [stepThrowing, searchFrame, vmDo]
  generalize hr : Sem.go _ e false [] s = res
  obtain ⟨as, rfl, ha⟩ := Sem.eq_ok_of hr (a := Handler.found pc) (s' := s.setVm vm9) (acts' := []) (by simp [hfind _ _ _ _])
  exact ⟨rfl, ha⟩
theorem xSteps {tb : Tables} {e : Env} {s target : State} {g : JFrame} {c : Code} {below : List Frame} {a : Addr} (h : At s g.method c below) {pc : Nat} {vm9 : Vm}
    (hfind : xFinds e ((s.setTop g).pushFrame (.throwing a)) g a (.found pc) vm9) (hrest : Steps tb e below ((s.setVm vm9).setTop { g with pc := pc, stack := [.ref a] }) target) :
    Steps tb e below ((s.setTop g).pushFrame (.throwing a)) target := by
  obtain ⟨hgo, hw⟩ := h.throwing a
  refine Steps.head hgo hw ?_
  rw [stepThread_throwing (frames_entered h.top _), (xStep (s := (s.setTop g).pushFrame (.throwing a)) hfind).1]
  obtain ⟨g₀, hg⟩ := Option.isSome_iff_exists.mp h.top
  obtain ⟨r, hr⟩ := State.topJava?_eq_some.mp hg
  have hr9 : (s.setVm vm9).frames = .java g₀ :: r := hr
  have hff : ∀ (u : State) (F G : List Frame), ((u.setFrames F).setVm vm9).setFrames G = (u.setVm vm9).setFrames G := fun u F G => by
    have h1 : (u.setFrames F).setVm vm9 = (u.setVm vm9).setFrames F := rfl
    rw [h1, State.setFrames_setFrames]
  rw [State.setTop_of_frames _ hr9] at hrest
  rw [hr, List.tail_cons, State.pushFrame, hff, State.setTop_of_frames _ hr, hff]
  exact hrest
section Caught
variable {p : Program} {l : Launch} {e : Env} {R : Room} {s : State} {m : MethodId} {args : Array Value} {below : List Frame} {meth : Method} {c : Code} {T : State} {H : Heap} {locs : List Loc} {cells slots : Nat} {Q : State → Prop}
/-- the first row takes it -/
theorem xCatch1 {own name E : String} {a pc : Nat} {ls : Array Slot} {rest : List Value} (hown : s.vm.findClass own = some m.cls) (x : ExceptionTableEntry) (more : List ExceptionTableEntry) (hsplit : c.exceptionTable.toList = x :: more) (hx : covers x pc = true) (h0 : x.catchType ≠ 0)
    (hlink : (Cond.classLink own x.catchType name).before args s = true) (hcast : (Cond.castable E name).before args s = true) {ce : Cell} (hcell : H[a]? = some ce) (hv : ce.vm = .none) (hE : s.vm.findClass E = some ce.cls)
    (kk : W p l e R s m args below meth c H locs cells slots Q (F0 m x.handlerPc ls [.ref a])) (hT : T.heap = H) (X : Stand p l e R s m args below meth c T locs cells slots) :
    ∃ t, Steps p.tables e below ((T.setTop (F0 m pc ls rest)).pushFrame (.throwing a)) t ∧ Q t := by
  have hpl : e.platform.magicAccessors = ({} : Platform).magicAccessors := by rw [X.admits.platform]
  obtain ⟨c3, cT, hc3, hcT, hasg⟩ := Cond.castable_spec hcast
  cases hE.symm.trans hc3
  obtain ⟨c4, hc4, hcl⟩ := Cond.classLink_spec hown hlink e.platform hpl
  cases hcT.symm.trans hc4
  obtain ⟨dk, _, _, kt, hd, _, _, _, _, hkt, _, hopen⟩ := hcl.here
  have hcl₀ := X.warmed.classLinks hcl
  have hW9 : s.WarmedH (T.vm.noted m.cls x.catchType (.cls cT)) := X.warmed.noted hd hopen (State.rightAt_cls hcl)
  have hal := X.warmed.alike
  obtain ⟨kt9, hkt9, -⟩ := hal.2.2 _ _ hkt
  have hfit : T.vm.assignable ce.cls cT = true := by rw [hal.assignable]; exact hasg
  obtain ⟨t, a1, b1⟩ := kk (T.setVm (T.vm.noted m.cls x.catchType (.cls cT))) hT (X.noted hW9)
  refine ⟨t, ?_, b1⟩
  refine xSteps (g := F0 m pc ls rest) X.here ?_ a1
  intro Q9 E9 d9 acts9
  rw [Jvm.W.findHandler_eq (meth := meth) (code := c) X.method' X.code, hsplit]
  rw [xGo (s := (T.setTop (F0 m pc ls rest)).pushFrame (.throwing a)) (f := F0 m pc ls rest) (c := cT) (cell := ce) (b := true) hx h0 hcl₀ (by show T.heap[a]? = _; rw [hT]; exact hcell) (VmData.ne_statics_of (by rw [hv]; rfl)) (Vm.classAt_of_assignable hfit ⟨kt9, hkt9⟩) ⟨kt9, hkt9⟩ hfit]
  rw [if_pos rfl]
  exact Iff.rfl
/-- the first row doesn't take it, the second does -/
theorem xCatch2 {own name1 name E : String} {a pc : Nat} {ls : Array Slot} {rest : List Value} (hown : s.vm.findClass own = some m.cls) (x1 x : ExceptionTableEntry) (more : List ExceptionTableEntry) (hsplit : c.exceptionTable.toList = x1 :: x :: more) (hx1 : covers x1 pc = true) (h01 : x1.catchType ≠ 0) (hx : covers x pc = true) (h0 : x.catchType ≠ 0)
    (hlink1 : (Cond.classLink own x1.catchType name1).before args s = true) (hno : va_Nc E name1 s) (hlink : (Cond.classLink own x.catchType name).before args s = true) (hcast : (Cond.castable E name).before args s = true) {ce : Cell} (hcell : H[a]? = some ce) (hv : ce.vm = .none) (hE : s.vm.findClass E = some ce.cls)
    (kk : W p l e R s m args below meth c H locs cells slots Q (F0 m x.handlerPc ls [.ref a])) (hT : T.heap = H) (X : Stand p l e R s m args below meth c T locs cells slots) :
    ∃ t, Steps p.tables e below ((T.setTop (F0 m pc ls rest)).pushFrame (.throwing a)) t ∧ Q t := by
  have hpl : e.platform.magicAccessors = ({} : Platform).magicAccessors := by rw [X.admits.platform]
  obtain ⟨c3, cT, hc3, hcT, hasg⟩ := Cond.castable_spec hcast
  cases hE.symm.trans hc3
  obtain ⟨c4, hc4, hcl⟩ := Cond.classLink_spec hown hlink e.platform hpl
  cases hcT.symm.trans hc4
  obtain ⟨c5, hc5, hcl1⟩ := Cond.classLink_spec hown hlink1 e.platform hpl
  obtain ⟨a8, b8, n1, n2, n3⟩ := hno
  cases n1.symm.trans hE
  cases n2.symm.trans hc5
  obtain ⟨dk1, _, _, kt1, hd1, _, _, _, _, hkt1, _, hopen1⟩ := hcl1.here
  obtain ⟨dk, _, _, kt, hd, _, _, _, _, hkt, _, hopen⟩ := hcl.here
  have hcl₁ := X.warmed.classLinks hcl1
  have hW1 : s.WarmedH (T.vm.noted m.cls x1.catchType (.cls c5)) := X.warmed.noted hd1 hopen1 (State.rightAt_cls hcl1)
  have X1 := X.noted hW1
  have hcl₂ : (T.vm.noted m.cls x1.catchType (.cls c5)).ClassLinks e.platform m.cls x.catchType cT := X1.warmed.classLinks hcl
  have hW2 : s.WarmedH ((T.vm.noted m.cls x1.catchType (.cls c5)).noted m.cls x.catchType (.cls cT)) := X1.warmed.noted hd hopen (State.rightAt_cls hcl)
  obtain ⟨k1, hk1, -⟩ := X.warmed.alike.2.2 _ _ hkt1
  have hal : s.vm.Alike (T.vm.noted m.cls x1.catchType (.cls c5)) := hW1.alike
  obtain ⟨k2, hk2, -⟩ := hal.2.2 _ _ hkt
  have hfit1 : T.vm.assignable ce.cls c5 = false := by rw [X.warmed.alike.assignable]; exact n3
  have hfit2 : (T.vm.noted m.cls x1.catchType (.cls c5)).assignable ce.cls cT = true := by rw [hal.assignable]; exact hasg
  obtain ⟨kc, hkc, -⟩ := Vm.findClass_spec hE
  obtain ⟨kc1, hkc1, -⟩ := X.warmed.alike.2.2 _ _ hkc
  obtain ⟨t, a1, b1⟩ := kk (T.setVm ((T.vm.noted m.cls x1.catchType (.cls c5)).noted m.cls x.catchType (.cls cT))) hT (X.noted hW2)
  refine ⟨t, ?_, b1⟩
  refine xSteps (g := F0 m pc ls rest) X.here ?_ a1
  intro Q9 E9 d9 acts9
  rw [Jvm.W.findHandler_eq (meth := meth) (code := c) X.method' X.code, hsplit]
  rw [xGo (s := (T.setTop (F0 m pc ls rest)).pushFrame (.throwing a)) (f := F0 m pc ls rest) (c := c5) (cell := ce) (b := false) hx1 h01 hcl₁ (by show T.heap[a]? = _; rw [hT]; exact hcell) (VmData.ne_statics_of (by rw [hv]; rfl)) ⟨kc1, hkc1⟩ ⟨k1, hk1⟩ hfit1]
  rw [if_neg (by decide)]
  rw [xGo (f := F0 m pc ls rest) (c := cT) (cell := ce) (b := true) hx h0 hcl₂ (by show T.heap[a]? = _; rw [hT]; exact hcell) (VmData.ne_statics_of (by rw [hv]; rfl)) (Vm.classAt_of_assignable hfit2 ⟨k2, hk2⟩) ⟨k2, hk2⟩ hfit2]
  rw [if_pos rfl]
  exact Iff.rfl
end Caught
end
section
/-! Methods that only read: a call of one leaves the heap as it is, so that it may stand before a throw. -/
def mCp (G : mG) (y : mY) (d : Nat) (args : List mV) (M : mM) (x : Int) : Prop := Met (gL G) y.1 (zW (yC y)) { frames := d, cells := 0, slots := 0, locals := 64 * d } (va_Pc (args.map mcv) (mPre G M)) (fun _ st oc t => oc = .returned (some (.int (Int32.ofInt x))) ∧ t.heap = st.heap) 0 0 (fun _ => False)
section PUR
variable {G : mG} {y y2 : mY} {d pc pc9 : Nat} {L st st9 As : List mV} {M : mM}
theorem mCp.of {x : Int} {ty : FieldType} {args : List mV} (hp : plainName y.1.cls = true) (hlen : (mEnt args).length ≤ y.2.2.1) (hL : mEnt args ++ List.replicate (y.2.2.1 - (mEnt args).length) vd = L) (hd : decode y.2.1 pc = .ok (.ireturn, 1)) (hr : y.2.2.2 = some ty) (hn : narrow ty (.int (Int32.ofInt x)) = .int (Int32.ofInt x)) (go : mGo G y d L M 0 [] pc [vi x]) : mCp G y d args M x := by
  refine Met.ofW (cc := y.2.1) (maxL := y.2.2.1) (ret := y.2.2.2) hp rfl ?_
  intro p e s m args9 below meth c s₁ B hml hv
  obtain ⟨rfl, hRep, hK, hh, hal⟩ := hv
  have hl := lv_entry (args.map mcv) (n := y.2.2.1) (by rw [mEnt_len]; exact hlen)
  rw [lg_entry_eq]
  generalize (lg_sl (args.map mcv) ++ List.replicate (y.2.2.1 - (lg_sl (args.map mcv)).length) Slot.unset).toArray = ls at hl ⊢
  have hLs : mLs ls y.2.2.1 L := by
    refine ⟨hl.1, hl.2.1, fun i v hi hv => ?_⟩
    rw [← hL] at hi
    by_cases q : i < (mEnt args).length
    · rw [List.getElem?_append_left q] at hi
      have := mEnt_args args 0 i v hi hv
      rw [Nat.zero_add] at this
      exact hl.2.2 _ this
    · rw [List.getElem?_append_right (by omega)] at hi
      have := List.mem_of_getElem? hi
      rw [List.eq_of_mem_replicate this] at hv
      cases hv
  refine go p e (headSpec (zW (yC y)) { frames := d, cells := 0, slots := 0, locals := 64 * d }).room s m (args.map mcv).toArray below meth c s.heap [] 0 0 ls _ ⟨B.exec, B.bytes, hml, B.returns, B.notSynchronized, (name_of_methodNamed B.named B.method).1, findClass_of_methodNamed B.named, hK, hh.use _, hh, hal, Nat.le_refl _, Nat.le_refl _⟩ hRep hLs (Nat.zero_le _) (Nat.zero_le _) ?_
  exact W.zret B.exec B.bytes (B.returns.trans hr) hn (fun t ht hW => ⟨rfl, ht⟩) (fun q h => by cases h) hd B.notSynchronized
theorem go_callP {c b idx n : Nat} {x : Int} {r0 : vw_C} {t9 : Nat → FieldType} {st0 : List mV} (hcl : vwCl[c]? = some r0) (hty : vwTy[c]? = some t9) (hr0 : r0.1 = y2.1.cls) (h1 : Cond.methodLink y.1.cls idx y2.1 ∈ lw_R) (h2 : Cond.instanceMethod y2.1 ∈ lw_R) (h3 : Cond.selects y2.1.cls y2.1 y2.1 ∈ lw_R) (h4 : Cond.initialized y2.1.cls ∈ lw_R) (h5 : yC y2 ∈ lw_R) (hd2 : y2.1.cls ≠ "java/lang/invoke/MethodHandle" ∧ y2.1.cls ≠ "java/lang/invoke/VarHandle" ∧ (parseMethodDescriptor y2.1.desc).map (fun d => d.parameters.length) = some n) (hnL : y2.2.2.1 ≤ 45) (hn : As.length = n) (hst : st0 = As.reverse ++ vr b :: st) (hW : (st.map mcat).sum ≤ 8) (hd : decode y.2.1 pc = .ok (.invokevirtual idx, 3)) (hK : mK M b = c + 1)
    (hM : mCp G y2 d (vr b :: As) M x) (h : mGo G y (d + 1) L M (pc + 3) (vi x :: st) pc9 st9) : mGo G y (d + 1) L M pc st0 pc9 st9 := by
  intro p e R s m args below meth c9 H locs cells slots ls Qf hA hR hL c1 c2 k
  have k' := h p e R s m args below meth c9 H locs cells slots ls Qf hA hR hL c1 c2 k
  subst hst
  obtain ⟨hx, hb, hml, -, -, -, hown, hKK, hts, hh, hal, hfr, hlo⟩ := hA
  obtain ⟨hb1, cell, q1, q2, q3, q4⟩ := (hR.2.2.2.2.2.2 b).1 c _ t9 hK hcl hty
  have hbv : mcv (vr b) = .ref b := hR.own hb1
  unfold mCp at hM
  rw [List.map_cons, hbv] at hM
  intro T hT X
  obtain ⟨v, s9, t, T', L', h0, X', hL', e1, e2, ⟨hv, hrep⟩, go⟩ := va_runV (g := F0 m pc ls ((As.reverse ++ vr b :: st).map mcv)) (rest := st.map mcv) ⟨hx, hb, hml, hown, hts⟩ hM (C := y2.1.cls) (n := n) ⟨callB_of n hts (zGood h5 rfl) rfl rfl rfl (hts _ h4) (hts _ h1) hd2 (m_room hfr hlo hnL), hts _ h2, hts _ h3⟩ ⟨mPre_blind, ⟨cell, q1, by rw [q3]; rfl, by rw [q2, ← hr0]; exact (hKK.1 c _ hcl).2.1⟩, fun U hU hW9 => ⟨rfl, mPre_at hKK hh hal hR hU hW9⟩⟩ rfl (by rw [List.length_map]; exact hn) hL.1 (by show (As.reverse ++ vr b :: st).map mcv = _; rw [List.map_append, List.map_cons, hbv, List.map_reverse]) (by rw [m_cats]; show 2 * 0 + _ ≤ 8; omega) hd ⟨c1, c2⟩ T hT X
  have hv' : v = some (.int (Int32.ofInt x)) := Outcome.returned.inj hv
  subst hv'
  have hnil : L' = [] := List.eq_nil_iff_forall_not_mem.mpr (fun q hq => hL' q hq)
  subst hnil
  rw [List.append_nil] at X'
  obtain ⟨t2, a1, b1⟩ := k' T' (by rw [e1, hrep, h0]) X'
  exact ⟨t2, go t2 a1, b1⟩
theorem p_Ga_hasState {g : Nat} {l : Int} (hO : mOk M) (il : i32 l) (kg : mK M g = 7) : mCp G y_Ga_hasState d [vr g, vi l] M (if 0 ≤ l ∧ l < mI M g 0 then 1 else 0) := by
  by_cases c : 0 ≤ l ∧ l < mI M g 0
  · rw [if_pos c]
    refine mCp.of (pc := 17) rfl (Nat.le_of_ble_eq_true rfl) (L := [vr g, vi l]) rfl d_Ga_hasState_17 rfl rfl ?_
    refine go_iload_n d_Ga_hasState_0 rfl rfl ?_
    refine go_if_lt (tgt := 16) d_Ga_hasState_1 rfl il (fun q => by omega) (fun _ => ?_)
    refine go_iload_n d_Ga_hasState_4 rfl rfl ?_
    refine go_aload_n d_Ga_hasState_5 rfl rfl ?_
    refine gg_Ga_55 rfl d_Ga_hasState_6 kg ?_
    refine go_icmp_ge (tgt := 16) d_Ga_hasState_9 rfl il (hO _ _).1 (fun q => by omega) (fun _ => ?_)
    refine go_iconst d_Ga_hasState_12 ?_
    exact go_goto (tgt := 17) d_Ga_hasState_13 rfl mGo.refl
  · rw [if_neg c]
    refine mCp.of (pc := 17) rfl (Nat.le_of_ble_eq_true rfl) (L := [vr g, vi l]) rfl d_Ga_hasState_17 rfl rfl ?_
    have fin : mGo G y_Ga_hasState d [vr g, vi l] M 16 [] 17 [vi 0] := go_iconst d_Ga_hasState_16 mGo.refl
    refine go_iload_n d_Ga_hasState_0 rfl rfl ?_
    refine go_if_lt (tgt := 16) d_Ga_hasState_1 rfl il (fun _ => fin) (fun q => ?_)
    refine go_iload_n d_Ga_hasState_4 rfl rfl ?_
    refine go_aload_n d_Ga_hasState_5 rfl rfl ?_
    refine gg_Ga_55 rfl d_Ga_hasState_6 kg ?_
    exact go_icmp_ge (tgt := 16) d_Ga_hasState_9 rfl il (hO _ _).1 (fun _ => fin) (fun q' => by omega)
end PUR
end
section
/-! The eight throws. -/
theorem kx_A1 : (Jvm.Cond.classLink "ChanceArena" (117 : Nat) "java/lang/IllegalArgumentException") ∈ lw_R := zR (zk_7 _ (List.mem_of_getElem? (i := 192) rfl)) rfl
theorem kx_A2 : (Jvm.Cond.initialized "java/lang/IllegalArgumentException") ∈ lw_R := zR (zk_1 _ (List.mem_of_getElem? (i := 25) rfl)) rfl
theorem kx_S1 : (Jvm.Cond.classLink "ChanceArena" (149 : Nat) "java/lang/IllegalStateException") ∈ lw_R := zR (zk_7 _ (List.mem_of_getElem? (i := 211) rfl)) rfl
theorem kx_S2 : (Jvm.Cond.initialized "java/lang/IllegalStateException") ∈ lw_R := zR (zk_1 _ (List.mem_of_getElem? (i := 33) rfl)) rfl
theorem kx_B1 : (Jvm.Cond.classLink "ChanceArena" (167 : Nat) "java/lang/IndexOutOfBoundsException") ∈ lw_R := zR (zk_8 _ (List.mem_of_getElem? (i := 47) rfl)) rfl
theorem kx_B2 : (Jvm.Cond.initialized "java/lang/IndexOutOfBoundsException") ∈ lw_R := zR (zk_1 _ (List.mem_of_getElem? (i := 34) rfl)) rfl
theorem dx_CA_end_19 : decode y_CA_end.2.1 19 = .ok (.new 117, 3) := dc9_187 (by decide +kernel)
theorem dx_CA_end_22 : decode y_CA_end.2.1 22 = .ok (.dup, 1) := dc9_89 (by decide +kernel)
theorem dx_CA_end_23 : decode y_CA_end.2.1 23 = .ok (.invokespecial 119, 3) := dc9_183 (by decide +kernel)
theorem dx_CA_end_26 : decode y_CA_end.2.1 26 = .ok (.athrow, 1) := by decide +kernel
theorem dx_CA_explore_7 : decode y_CA_explore.2.1 7 = .ok (.new 149, 3) := dc9_187 (by decide +kernel)
theorem dx_CA_explore_10 : decode y_CA_explore.2.1 10 = .ok (.dup, 1) := dc9_89 (by decide +kernel)
theorem dx_CA_explore_11 : decode y_CA_explore.2.1 11 = .ok (.invokespecial 151, 3) := dc9_183 (by decide +kernel)
theorem dx_CA_explore_14 : decode y_CA_explore.2.1 14 = .ok (.athrow, 1) := by decide +kernel
theorem dx_CA_variable_26 : decode y_CA_variable.2.1 26 = .ok (.new 167, 3) := dc9_187 (by decide +kernel)
theorem dx_CA_variable_29 : decode y_CA_variable.2.1 29 = .ok (.dup, 1) := dc9_89 (by decide +kernel)
theorem dx_CA_variable_30 : decode y_CA_variable.2.1 30 = .ok (.invokespecial 169, 3) := dc9_183 (by decide +kernel)
theorem dx_CA_variable_33 : decode y_CA_variable.2.1 33 = .ok (.athrow, 1) := by decide +kernel
theorem dx_CA_solve_10 : decode y_CA_solve.2.1 10 = .ok (.new 149, 3) := dc9_187 (by decide +kernel)
theorem dx_CA_solve_13 : decode y_CA_solve.2.1 13 = .ok (.dup, 1) := dc9_89 (by decide +kernel)
theorem dx_CA_solve_14 : decode y_CA_solve.2.1 14 = .ok (.invokespecial 151, 3) := dc9_183 (by decide +kernel)
theorem dx_CA_solve_17 : decode y_CA_solve.2.1 17 = .ok (.athrow, 1) := by decide +kernel
theorem dx_CA_within_10 : decode y_CA_within.2.1 10 = .ok (.new 117, 3) := dc9_187 (by decide +kernel)
theorem dx_CA_within_13 : decode y_CA_within.2.1 13 = .ok (.dup, 1) := dc9_89 (by decide +kernel)
theorem dx_CA_within_14 : decode y_CA_within.2.1 14 = .ok (.invokespecial 119, 3) := dc9_183 (by decide +kernel)
theorem dx_CA_within_17 : decode y_CA_within.2.1 17 = .ok (.athrow, 1) := by decide +kernel
theorem dx_CA_within_28 : decode y_CA_within.2.1 28 = .ok (.new 149, 3) := dc9_187 (by decide +kernel)
theorem dx_CA_within_31 : decode y_CA_within.2.1 31 = .ok (.dup, 1) := dc9_89 (by decide +kernel)
theorem dx_CA_within_32 : decode y_CA_within.2.1 32 = .ok (.invokespecial 151, 3) := dc9_183 (by decide +kernel)
theorem dx_CA_within_35 : decode y_CA_within.2.1 35 = .ok (.athrow, 1) := by decide +kernel
theorem dx_CA_choose_13 : decode y_CA_choose.2.1 13 = .ok (.new 167, 3) := dc9_187 (by decide +kernel)
theorem dx_CA_choose_16 : decode y_CA_choose.2.1 16 = .ok (.dup, 1) := dc9_89 (by decide +kernel)
theorem dx_CA_choose_17 : decode y_CA_choose.2.1 17 = .ok (.invokespecial 169, 3) := dc9_183 (by decide +kernel)
theorem dx_CA_choose_20 : decode y_CA_choose.2.1 20 = .ok (.athrow, 1) := by decide +kernel
theorem dx_CA_adopt_10 : decode y_CA_adopt.2.1 10 = .ok (.new 149, 3) := dc9_187 (by decide +kernel)
theorem dx_CA_adopt_13 : decode y_CA_adopt.2.1 13 = .ok (.dup, 1) := dc9_89 (by decide +kernel)
theorem dx_CA_adopt_14 : decode y_CA_adopt.2.1 14 = .ok (.invokespecial 151, 3) := dc9_183 (by decide +kernel)
theorem dx_CA_adopt_17 : decode y_CA_adopt.2.1 17 = .ok (.athrow, 1) := by decide +kernel
theorem dx_CA_judge_10 : decode y_CA_judge.2.1 10 = .ok (.new 117, 3) := dc9_187 (by decide +kernel)
theorem dx_CA_judge_13 : decode y_CA_judge.2.1 13 = .ok (.dup, 1) := dc9_89 (by decide +kernel)
theorem dx_CA_judge_14 : decode y_CA_judge.2.1 14 = .ok (.invokespecial 119, 3) := dc9_183 (by decide +kernel)
theorem dx_CA_judge_17 : decode y_CA_judge.2.1 17 = .ok (.athrow, 1) := by decide +kernel
theorem dx_CA_judge_28 : decode y_CA_judge.2.1 28 = .ok (.new 149, 3) := dc9_187 (by decide +kernel)
theorem dx_CA_judge_31 : decode y_CA_judge.2.1 31 = .ok (.dup, 1) := dc9_89 (by decide +kernel)
theorem dx_CA_judge_32 : decode y_CA_judge.2.1 32 = .ok (.invokespecial 151, 3) := dc9_183 (by decide +kernel)
theorem dx_CA_judge_35 : decode y_CA_judge.2.1 35 = .ok (.athrow, 1) := by decide +kernel
section EIG
variable {G : mG} {d t g p v : Nat} {M : mM} {l l1 l2 : Int}
theorem t_CA_end (hT : TH G) (h6 : 6 ≤ d) (hO : mOk M) (il : i32 l) (kt : mK M t = 1) (c : ¬ (0 ≤ l ∧ l ≤ 20 ∧ 20 ≤ mI M t 1)) : mCt G y_CA_end d [vr t, vi l] M "java/lang/IllegalArgumentException" := by
  refine mCt.of (pc := 19) (ic := 119) (ix := 117) hT rfl (Nat.le_of_ble_eq_true rfl) (L := [vr t, vi l]) rfl (by decide +kernel) zA_IAE kx_A1 kx_A2 dx_CA_end_19 dx_CA_end_22 dx_CA_end_23 dx_CA_end_26 h6 ?_
  refine go_iload_n d_CA_end_0 rfl rfl ?_
  refine go_if_lt (tgt := 19) d_CA_end_1 rfl il (fun _ => mGo.refl) (fun c1 => ?_)
  refine go_iload_n d_CA_end_4 rfl rfl ?_
  refine go_bipush d_CA_end_5 (by decide) ?_
  refine go_icmp_gt (tgt := 19) d_CA_end_7 rfl il ⟨by decide, by decide⟩ (fun _ => mGo.refl) (fun c2 => ?_)
  refine go_aload_n d_CA_end_10 rfl rfl ?_
  refine gg_CA_13 rfl d_CA_end_11 kt ?_
  refine go_bipush d_CA_end_14 (by decide) ?_
  exact go_icmp_ge (tgt := 27) d_CA_end_16 rfl (hO _ _).1 ⟨by decide, by decide⟩ (fun c3 => absurd (⟨by omega, by omega, c3⟩) c) (fun _ => mGo.refl)
theorem t_CA_explore (hT : TH G) (h6 : 6 ≤ d) (hO : mOk M) (kt : mK M t = 1) (c : mI M t 6 = 0) : mCt G y_CA_explore d [vr t] M "java/lang/IllegalStateException" := by
  refine mCt.of (pc := 7) (ic := 151) (ix := 149) hT rfl (Nat.le_of_ble_eq_true rfl) (L := [vr t, vd]) rfl (by decide +kernel) zA_ISE kx_S1 kx_S2 dx_CA_explore_7 dx_CA_explore_10 dx_CA_explore_11 dx_CA_explore_14 h6 ?_
  refine go_aload_n d_CA_explore_0 rfl rfl ?_
  refine gg_CA_41 rfl d_CA_explore_1 kt ?_
  exact go_if_ne (tgt := 15) d_CA_explore_4 rfl (hO _ _).1 (fun q => absurd c q) (fun _ => mGo.refl)
theorem t_CA_solve (hT : TH G) (h6 : 6 ≤ d) (hO : mOk M) (kt : mK M t = 1) (rg : mR M t 9 = g) (kg : mK M g = 7) (c : mI M g 0 = 0) : mCt G y_CA_solve d [vr t] M "java/lang/IllegalStateException" := by
  refine mCt.of (pc := 10) (ic := 151) (ix := 149) hT rfl (Nat.le_of_ble_eq_true rfl) (L := [vr t, vd]) rfl (by decide +kernel) zA_ISE kx_S1 kx_S2 dx_CA_solve_10 dx_CA_solve_13 dx_CA_solve_14 dx_CA_solve_17 h6 ?_
  refine go_aload_n d_CA_solve_0 rfl rfl ?_
  refine gg_CA_54 rfl d_CA_solve_1 kt ?_
  rw [rg]
  refine gg_CA_160 rfl d_CA_solve_4 kg ?_
  exact go_if_ne (tgt := 18) d_CA_solve_7 rfl (hO _ _).1 (fun q => absurd c q) (fun _ => mGo.refl)
theorem t_CA_adopt (hT : TH G) (h6 : 6 ≤ d) (hO : mOk M) (kt : mK M t = 1) (rv : mR M t 11 = v) (kv : mK M v = 13) (c : mI M v 1 = 0) : mCt G y_CA_adopt d [vr t] M "java/lang/IllegalStateException" := by
  refine mCt.of (pc := 10) (ic := 151) (ix := 149) hT rfl (Nat.le_of_ble_eq_true rfl) (L := [vr t, vd]) rfl (by decide +kernel) zA_ISE kx_S1 kx_S2 dx_CA_adopt_10 dx_CA_adopt_13 dx_CA_adopt_14 dx_CA_adopt_17 h6 ?_
  refine go_aload_n d_CA_adopt_0 rfl rfl ?_
  refine gg_CA_70 rfl d_CA_adopt_1 kt ?_
  rw [rv]
  refine gg_CA_137 rfl d_CA_adopt_4 kv ?_
  exact go_if_ne (tgt := 18) d_CA_adopt_7 rfl (hO _ _).1 (fun q => absurd c q) (fun _ => mGo.refl)
theorem t_CA_within1 (hT : TH G) (h6 : 6 ≤ d) (il : i32 l) (c : ¬ (0 ≤ l ∧ l ≤ 32)) : mCt G y_CA_within d [vr t, vi l] M "java/lang/IllegalArgumentException" := by
  refine mCt.of (pc := 10) (ic := 119) (ix := 117) hT rfl (Nat.le_of_ble_eq_true rfl) (L := [vr t, vi l, vd, vd]) rfl (by decide +kernel) zA_IAE kx_A1 kx_A2 dx_CA_within_10 dx_CA_within_13 dx_CA_within_14 dx_CA_within_17 h6 ?_
  refine go_iload_n d_CA_within_0 rfl rfl ?_
  refine go_if_lt (tgt := 10) d_CA_within_1 rfl il (fun _ => mGo.refl) (fun c1 => ?_)
  refine go_iload_n d_CA_within_4 rfl rfl ?_
  refine go_bipush d_CA_within_5 (by decide) ?_
  exact go_icmp_le (tgt := 18) d_CA_within_7 rfl il ⟨by decide, by decide⟩ (fun c2 => absurd ⟨by omega, c2⟩ c) (fun _ => mGo.refl)
theorem t_CA_within2 (hT : TH G) (h6 : 6 ≤ d) (hO : mOk M) (il : i32 l) (c : 0 ≤ l ∧ l ≤ 32) (kt : mK M t = 1) (rg : mR M t 9 = g) (kg : mK M g = 7) (c0 : mI M g 0 = 0) : mCt G y_CA_within d [vr t, vi l] M "java/lang/IllegalStateException" := by
  refine mCt.of (pc := 28) (ic := 151) (ix := 149) hT rfl (Nat.le_of_ble_eq_true rfl) (L := [vr t, vi l, vd, vd]) rfl (by decide +kernel) zA_ISE kx_S1 kx_S2 dx_CA_within_28 dx_CA_within_31 dx_CA_within_32 dx_CA_within_35 h6 ?_
  refine go_iload_n d_CA_within_0 rfl rfl ?_
  refine go_if_lt (tgt := 10) d_CA_within_1 rfl il (fun q => by omega) (fun c1 => ?_)
  refine go_iload_n d_CA_within_4 rfl rfl ?_
  refine go_bipush d_CA_within_5 (by decide) ?_
  refine go_icmp_le (tgt := 18) d_CA_within_7 rfl il ⟨by decide, by decide⟩ (fun _ => ?_) (fun q => by omega)
  refine go_aload_n d_CA_within_18 rfl rfl ?_
  refine gg_CA_54 rfl d_CA_within_19 kt ?_
  rw [rg]
  refine gg_CA_160 rfl d_CA_within_22 kg ?_
  exact go_if_ne (tgt := 36) d_CA_within_25 rfl (hO _ _).1 (fun q => absurd c0 q) (fun _ => mGo.refl)
theorem t_CA_judge1 (hT : TH G) (h6 : 6 ≤ d) (il : i32 l) (c : ¬ (l = 1 ∨ l = 2)) : mCt G y_CA_judge d [vr t, vi l] M "java/lang/IllegalArgumentException" := by
  refine mCt.of (pc := 10) (ic := 119) (ix := 117) hT rfl (Nat.le_of_ble_eq_true rfl) (L := [vr t, vi l]) rfl (by decide +kernel) zA_IAE kx_A1 kx_A2 dx_CA_judge_10 dx_CA_judge_13 dx_CA_judge_14 dx_CA_judge_17 h6 ?_
  refine go_iload_n d_CA_judge_0 rfl rfl ?_
  refine go_iconst d_CA_judge_1 ?_
  refine go_icmp_eq (tgt := 18) d_CA_judge_2 rfl il ⟨by decide, by decide⟩ (fun q => absurd (Or.inl q) c) (fun _ => ?_)
  refine go_iload_n d_CA_judge_5 rfl rfl ?_
  refine go_iconst d_CA_judge_6 ?_
  exact go_icmp_eq (tgt := 18) d_CA_judge_7 rfl il ⟨by decide, by decide⟩ (fun q => absurd (Or.inr q) c) (fun _ => mGo.refl)
theorem t_CA_judge2 (hT : TH G) (h6 : 6 ≤ d) (hO : mOk M) (il : i32 l) (c : l = 1 ∨ l = 2) (kt : mK M t = 1) (rg : mR M t 9 = g) (kg : mK M g = 7) (c0 : mI M g 0 = 0) : mCt G y_CA_judge d [vr t, vi l] M "java/lang/IllegalStateException" := by
  refine mCt.of (pc := 28) (ic := 151) (ix := 149) hT rfl (Nat.le_of_ble_eq_true rfl) (L := [vr t, vi l]) rfl (by decide +kernel) zA_ISE kx_S1 kx_S2 dx_CA_judge_28 dx_CA_judge_31 dx_CA_judge_32 dx_CA_judge_35 h6 ?_
  have fin : mGo G y_CA_judge d [vr t, vi l] M 18 [] 28 [] := by
    refine go_aload_n d_CA_judge_18 rfl rfl ?_
    refine gg_CA_54 rfl d_CA_judge_19 kt ?_
    rw [rg]
    refine gg_CA_160 rfl d_CA_judge_22 kg ?_
    exact go_if_ne (tgt := 36) d_CA_judge_25 rfl (hO _ _).1 (fun q => absurd c0 q) (fun _ => mGo.refl)
  refine go_iload_n d_CA_judge_0 rfl rfl ?_
  refine go_iconst d_CA_judge_1 ?_
  refine go_icmp_eq (tgt := 18) d_CA_judge_2 rfl il ⟨by decide, by decide⟩ (fun _ => fin) (fun q => ?_)
  refine go_iload_n d_CA_judge_5 rfl rfl ?_
  refine go_iconst d_CA_judge_6 ?_
  exact go_icmp_eq (tgt := 18) d_CA_judge_7 rfl il ⟨by decide, by decide⟩ (fun _ => fin) (fun q' => absurd c (fun u => u.elim q q'))
theorem t_CA_variable (hT : TH G) (h6 : 6 ≤ d) (hO : mOk M) (i1 : i32 l1) (i2 : i32 l2) (kt : mK M t = 1) (rg : mR M t 9 = g) (kg : mK M g = 7) (rp : mR M t 4 = p) (kp : mK M p = 6) (c : ¬ ((0 ≤ l1 ∧ l1 < mI M g 0) ∧ (0 ≤ l2 ∧ l2 < mI M p 3))) : mCt G y_CA_variable (d + 1) [vr t, vi l1, vi l2] M "java/lang/IndexOutOfBoundsException" := by
  have h6 : 6 ≤ d + 1 := by omega
  refine mCt.of (pc := 26) (ic := 169) (ix := 167) hT rfl (Nat.le_of_ble_eq_true rfl) (L := [vr t, vi l1, vi l2]) rfl (by decide +kernel) zA_IOB kx_B1 kx_B2 dx_CA_variable_26 dx_CA_variable_29 dx_CA_variable_30 dx_CA_variable_33 h6 ?_
  refine go_aload_n d_CA_variable_0 rfl rfl ?_
  refine gg_CA_54 rfl d_CA_variable_1 kt ?_
  rw [rg]
  refine go_iload_n d_CA_variable_4 rfl rfl ?_
  have hs := p_Ga_hasState (G := G) (d := d) hO i1 kg
  refine go_callP (y2 := y_Ga_hasState) (c := 6) (n := 1) (As := [vi l1]) rfl rfl rfl k5_149 k5_150 k5_151 k1_7 k5_152 ⟨by decide, by decide, by decide +kernel⟩ (by decide) rfl rfl (Nat.le_of_ble_eq_true rfl) d_CA_variable_5 kg hs ?_
  by_cases c1 : 0 ≤ l1 ∧ l1 < mI M g 0
  · rw [if_pos c1]
    refine go_if_eq (tgt := 26) d_CA_variable_8 rfl ⟨by decide, by decide⟩ (fun _ => mGo.refl) (fun _ => ?_)
    refine go_iload_n d_CA_variable_11 rfl rfl ?_
    refine go_if_lt (tgt := 26) d_CA_variable_12 rfl i2 (fun _ => mGo.refl) (fun c2 => ?_)
    refine go_iload_n d_CA_variable_15 rfl rfl ?_
    refine go_aload_n d_CA_variable_16 rfl rfl ?_
    refine gg_CA_34 rfl d_CA_variable_17 kt ?_
    rw [rp]
    refine gg_CA_140 rfl d_CA_variable_20 kp ?_
    exact go_icmp_lt (tgt := 34) d_CA_variable_23 rfl i2 (hO _ _).1 (fun c3 => absurd ⟨c1, by omega, c3⟩ c) (fun _ => mGo.refl)
  · rw [if_neg c1]
    exact go_if_eq (tgt := 26) d_CA_variable_8 rfl ⟨by decide, by decide⟩ (fun _ => mGo.refl) (fun q => absurd rfl q)
theorem p_Ga_commandAt {F : Nat} (hO : mOk M) (i1 : i32 l1) (i2 : i32 l2) (kg : mK M g = 7) (r4 : mR M g 4 = F) (kF : mK M F = 30) (nF : mI M g 0 < mN M F) (iF : (0 ≤ l1 ∧ l1 < mI M g 0) → i32 (mI M F (l1 + 1).toNat - mI M F l1.toNat)) (c : ¬ ((0 ≤ l1 ∧ l1 < mI M g 0) ∧ 0 ≤ l2 ∧ l2 < mI M F (l1 + 1).toNat - mI M F l1.toNat)) : mCp G y_Ga_commandAt (d + 1) [vr g, vi l1, vi l2] M (-1) := by
  refine mCp.of (pc := 32) rfl (Nat.le_of_ble_eq_true rfl) (L := [vr g, vi l1, vi l2]) rfl d_Ga_commandAt_32 rfl rfl ?_
  have fin : mGo G y_Ga_commandAt (d + 1) [vr g, vi l1, vi l2] M 31 [] 32 [vi (-1)] := go_iconst d_Ga_commandAt_31 mGo.refl
  refine go_aload_n d_Ga_commandAt_0 rfl rfl ?_
  refine go_iload_n d_Ga_commandAt_1 rfl rfl ?_
  have hs := p_Ga_hasState (G := G) (d := d) hO i1 kg
  refine go_callP (y2 := y_Ga_hasState) (c := 6) (n := 1) (As := [vi l1]) rfl rfl rfl k5_165 k5_150 k5_151 k1_7 k5_152 ⟨by decide, by decide, by decide +kernel⟩ (by decide) rfl rfl (Nat.le_of_ble_eq_true rfl) d_Ga_commandAt_2 kg hs ?_
  by_cases c1 : 0 ≤ l1 ∧ l1 < mI M g 0
  · rw [if_pos c1]
    have i1' := iF c1
    refine go_if_eq (tgt := 31) d_Ga_commandAt_5 rfl ⟨by decide, by decide⟩ (fun _ => fin) (fun _ => ?_)
    refine go_iload_n d_Ga_commandAt_8 rfl rfl ?_
    refine go_if_lt (tgt := 31) d_Ga_commandAt_9 rfl i2 (fun _ => fin) (fun c2 => ?_)
    refine go_iload_n d_Ga_commandAt_12 rfl rfl ?_
    refine go_aload_n d_Ga_commandAt_13 rfl rfl ?_
    refine gg_Ga_21 rfl d_Ga_commandAt_14 kg ?_
    rw [r4]
    refine go_iload_n d_Ga_commandAt_17 rfl rfl ?_
    refine go_iconst d_Ga_commandAt_18 ?_
    refine go_iadd d_Ga_commandAt_19 ?_
    refine go_iald d_Ga_commandAt_20 kF ⟨by omega, by omega⟩ ?_
    refine go_aload_n d_Ga_commandAt_21 rfl rfl ?_
    refine gg_Ga_21 rfl d_Ga_commandAt_22 kg ?_
    rw [r4]
    refine go_iload_n d_Ga_commandAt_25 rfl rfl ?_
    refine go_iald d_Ga_commandAt_26 kF ⟨by omega, by omega⟩ ?_
    refine go_isub d_Ga_commandAt_27 ?_
    exact go_icmp_lt (tgt := 33) d_Ga_commandAt_28 rfl i2 i1' (fun c3 => absurd ⟨c1, by omega, c3⟩ c) (fun _ => fin)
  · rw [if_neg c1]
    exact go_if_eq (tgt := 31) d_Ga_commandAt_5 rfl ⟨by decide, by decide⟩ (fun _ => fin) (fun q => absurd rfl q)
theorem t_CA_choose {F : Nat} (hT : TH G) (h6 : 6 ≤ d) (hO : mOk M) (i1 : i32 l1) (i2 : i32 l2) (kt : mK M t = 1) (rg : mR M t 9 = g) (kg : mK M g = 7) (r4 : mR M g 4 = F) (kF : mK M F = 30) (nF : mI M g 0 < mN M F) (iF : (0 ≤ l1 ∧ l1 < mI M g 0) → i32 (mI M F (l1 + 1).toNat - mI M F l1.toNat)) (c : ¬ ((0 ≤ l1 ∧ l1 < mI M g 0) ∧ 0 ≤ l2 ∧ l2 < mI M F (l1 + 1).toNat - mI M F l1.toNat)) : mCt G y_CA_choose (d + 2) [vr t, vi l1, vi l2] M "java/lang/IndexOutOfBoundsException" := by
  have h6 : 6 ≤ d + 2 := by omega
  refine mCt.of (pc := 13) (ic := 169) (ix := 167) hT rfl (Nat.le_of_ble_eq_true rfl) (L := [vr t, vi l1, vi l2]) rfl (by decide +kernel) zA_IOB kx_B1 kx_B2 dx_CA_choose_13 dx_CA_choose_16 dx_CA_choose_17 dx_CA_choose_20 h6 ?_
  refine go_aload_n d_CA_choose_0 rfl rfl ?_
  refine gg_CA_54 rfl d_CA_choose_1 kt ?_
  rw [rg]
  refine go_iload_n d_CA_choose_4 rfl rfl ?_
  refine go_iload_n d_CA_choose_5 rfl rfl ?_
  have hs := p_Ga_commandAt (G := G) (d := d) hO i1 i2 kg r4 kF nF iF c
  refine go_callP (y2 := y_Ga_commandAt) (c := 6) (n := 2) (As := [vi l1, vi l2]) rfl rfl rfl k5_161 k5_162 k5_163 k1_7 k5_164 ⟨by decide, by decide, by decide +kernel⟩ (by decide) rfl rfl (Nat.le_of_ble_eq_true rfl) d_CA_choose_6 kg hs ?_
  refine go_iconst d_CA_choose_9 ?_
  exact go_icmp_ne (tgt := 21) d_CA_choose_10 rfl ⟨by decide, by decide⟩ ⟨by decide, by decide⟩ (fun q => absurd rfl q) (fun _ => mGo.refl)
end EIG
end
section
/-! A static call of a method with handlers (the law's helpers). -/
theorem zRunSW {p : Program} {l : Launch} {e : Env} {R : Room} {s : State} {m : MethodId} {args : Array Value} {below : List Frame} {meth : Method} {c : Code} {H : Heap} {locs : List Loc} {cells slots : Nat} {y : MethodName} {bytes cc : ByteArray} {maxL nL mc ms n index : Nat} {ret : Option FieldType} {hs : List (Nat × Nat × Nat × Nat)} {rm : Room} {Pc : Array Value → State → Prop} {Qc : Array Value → State → Outcome → State → Prop} {free : Addr → Prop} {own : String} {As rest : List Value} {g : JFrame}
    (S : CallFix p m c cc nL s args lw_R own) (hM : Met l y (zW (Cond.codeWith y bytes maxL ret hs)) rm Pc Qc mc ms free) (h1 : Cond.methodLink own index y ∈ lw_R) (h2 : Cond.static y ∈ lw_R) (h4 : Cond.initialized y.cls ∈ lw_R) (h5 : Cond.codeWith y bytes maxL ret hs ∈ lw_R) (hrc : rm.cells = mc) (hrs : rm.slots = ms)
    (hd : y.cls ≠ "java/lang/invoke/MethodHandle" ∧ y.cls ≠ "java/lang/invoke/VarHandle" ∧ (parseMethodDescriptor y.desc).map (fun d => d.parameters.length) = some n) (hR : rm.frames + 1 ≤ R.frames ∧ 8 + (maxL + 11) + rm.locals ≤ R.locals) (hp : PreS s H Pc As)
    (hg : g.method = m) (hn : As.length = n) (hsize : g.locals.size = nL) (hstack : g.stack = As.reverse ++ rest) (hW : 2 * g.monitorRoom + (rest.map fun v => v.category).sum ≤ 8) (hdg : decode cc g.pc = .ok (.invokestatic index, 3)) (hf : cells + mc ≤ R.cells ∧ slots + ms ≤ R.slots) :
    va_Run p l e R s m args below meth c H locs cells slots mc ms g rest (Qc As.toArray) free := by
  obtain ⟨hx, hb, hml, ho, hts⟩ := S
  have hG : GoodIn lw_R (zW (Cond.codeWith y bytes maxL ret hs)) := zGood h5 rfl
  have hK : Back l R p e below s args y 3 8 (PreOf R mc ms Pc) (PostOf Qc mc ms free) := va_backW (hh := hs) (bytes := bytes) (maxL := maxL) (ret := ret) hM hp.1 hrc hrs hR.1 hR.2 (pay_in hts hG) List.mem_cons_self (fun a9 U hW9 => word_at hW9 (Or.inl (by first | rfl | simp [Cond.onTables, Cond.keeps, Cond.steady])) (hts _ h4))
  intro T hT X
  obtain ⟨mk, methM, cM, hnamed, hmethM, -, -, -, -, -, -, hsigM⟩ := Cond.codeWith_spec (hts _ h5)
  have hstatic := Cond.static_spec hnamed hmethM (hts _ h2)
  obtain ⟨kP, hkP, -⟩ := className_of_methodNamed hnamed
  have hinitP := Cond.initialized_spec (findClass_of_methodNamed hnamed) hkP (hts _ h4)
  have hlen : As.length = methM.sig.parameters.length := by
    have h9 := hd.2.2
    rw [hsigM] at h9
    rw [hn]
    exact (Option.some.inj h9).symm
  obtain ⟨vm₁, X₁, hstep₁⟩ := X.invokestatic hx ho (hts _ h1) hnamed hmethM hstatic hkP hinitP ⟨hd.1, hd.2.1⟩ (g := g) hg (argsL := As) (rest := rest) hlen hstack (by rw [hb]; exact hdg)
  obtain ⟨v, ⟨U9, l2, c2, s2⟩, X9, ⟨g9, mk9, t, L, e1, e2, hq, q1, hL, q2, q3⟩, hsteps⟩ := hK m meth c ⟨T.setVm vm₁, locs, cells, slots⟩ { g with stack := rest } (.invokestatic index) mk As.toArray X₁ hg (hsize.trans hml.symm) (by rw [hb]; exact hdg) hW (X₁.named hnamed) ⟨hf.1, hf.2, hp.2 (T.setVm vm₁) hT X₁.warmed⟩
  dsimp only [Pt.U, Pt.locs, Pt.cells, Pt.slots] at X9 e1 e2 q1 q2 q3 hsteps
  subst q1; subst q2; subst q3
  exact ⟨v, (T.setVm vm₁).calling g9 mk9 As.toArray, t, U9, L, hT, X9, hL, e1, e2, hq, fun tg h => hstep₁ _ fun acts => by rw [doInvoke_state]; exact hsteps.trans h⟩
/-! The law's helpers: methods with handlers. -/
abbrev yW (y : mY) (hs : List (Nat × Nat × Nat × Nat)) : Cond := Cond.codeWith y.1 y.2.1 y.2.2.1 y.2.2.2 hs
def mClW (G : mG) (y : mY) (hs : List (Nat × Nat × Nat × Nat)) (d : Nat) (args : List mV) (M : mM) (r : Option mV) (M' : mM) : Prop :=
  (mZ M ≤ mZ M' ∧ mS M ≤ mS M') ∧ Met (gL G) y.1 (zW (yW y hs)) { frames := d, cells := mZ M' - mZ M, slots := mS M' - mS M, locals := 64 * d } (va_Pc (args.map mcv) (mPre G M)) (mQ G r M') (mZ M' - mZ M) (mS M' - mS M) (mOwn G)
/-- a call of a method with handlers answers an int -/
def CiW (G : mG) (y : mY) (hs : List (Nat × Nat × Nat × Nat)) (d : Nat) (args : List mV) (M : mM) (Q : Int → mM → Prop) : Prop := ∃ r M', mClW G y hs d args M r M' ∧ ∃ x, r = some (vi x) ∧ Q x M'
section HEL
variable {G : mG} {y y2 : mY} {hs : List (Nat × Nat × Nat × Nat)} {d pc : Nat} {L st As args : List mV} {M : mM} {Q : Option mV → mM → Prop}
theorem wm_openW {Q9 : Int → mM → Prop} (hp : plainName y.1.cls = true) (hlen : (mEnt args).length ≤ y.2.2.1) (hL : mEnt args ++ List.replicate (y.2.2.1 - (mEnt args).length) vd = L) (h : mWm G y d 0 L [] M (fun r M1 => ∃ x, r = some (vi x) ∧ Q9 x M1)) : CiW G y hs d args M Q9 := by
  obtain ⟨r, M', ⟨h1, h2⟩, h3⟩ := h
  refine ⟨r, M', ⟨h1, ?_⟩, h3⟩
  refine va_MetW (cc := y.2.1) (maxL := y.2.2.1) (ret := y.2.2.2) (hh := hs) hp rfl ?_
  intro p e s m args9 below meth c s₁ B hml hv
  obtain ⟨rfl, hRep, hK, hh, hal⟩ := hv
  have hl := lv_entry (args.map mcv) (n := y.2.2.1) (by rw [mEnt_len]; exact hlen)
  rw [lg_entry_eq]
  generalize (lg_sl (args.map mcv) ++ List.replicate (y.2.2.1 - (lg_sl (args.map mcv)).length) Slot.unset).toArray = ls at hl ⊢
  have hLs : mLs ls y.2.2.1 L := by
    refine ⟨hl.1, hl.2.1, fun i v hi hv => ?_⟩
    rw [← hL] at hi
    by_cases q : i < (mEnt args).length
    · rw [List.getElem?_append_left q] at hi
      have := mEnt_args args 0 i v hi hv
      rw [Nat.zero_add] at this
      exact hl.2.2 _ this
    · rw [List.getElem?_append_right (by omega)] at hi
      have := List.mem_of_getElem? hi
      rw [List.eq_of_mem_replicate this] at hv
      cases hv
  have := h2 p e (headSpec (zW (yW y hs)) { frames := d, cells := mZ M' - mZ M, slots := mS M' - mS M, locals := 64 * d }).room s m (args.map mcv).toArray below meth c s.heap [] 0 0 ls ⟨B.exec, B.bytes, hml, B.returns, B.notSynchronized, (name_of_methodNamed B.named B.method).1, findClass_of_methodNamed B.named, hK, hh.use _, hh, hal, Nat.le_refl _, Nat.le_refl _⟩ hRep (fun q h => by cases h) (by rw [Nat.zero_add]; exact Nat.le_refl _) (by rw [Nat.zero_add]; exact Nat.le_refl _) hLs
  rw [Nat.zero_add, Nat.zero_add] at this
  exact this
theorem wm_callSW {idx n : Nat} {st0 : List mV} (h1 : Cond.methodLink y.1.cls idx y2.1 ∈ lw_R) (h2 : Cond.static y2.1 ∈ lw_R) (h4 : Cond.initialized y2.1.cls ∈ lw_R) (h5 : yW y2 hs ∈ lw_R) (hd2 : y2.1.cls ≠ "java/lang/invoke/MethodHandle" ∧ y2.1.cls ≠ "java/lang/invoke/VarHandle" ∧ (parseMethodDescriptor y2.1.desc).map (fun d => d.parameters.length) = some n) (hnL : y2.2.2.1 ≤ 45) (hn : As.length = n) (hst : st0 = As.reverse ++ st) (hW : (st.map mcat).sum ≤ 8) (hd : decode y.2.1 pc = .ok (.invokestatic idx, 3))
    (h : CiW G y2 hs d As M (fun x M1 => mWm G y (d + 1) (pc + 3) L (vi x :: st) M1 Q)) : mWm G y (d + 1) pc L st0 M Q := by
  obtain ⟨r, M1, hC, x, rfl, r2, M2, ⟨⟨z1, z2⟩, hE⟩, hQ⟩ := h
  have hz := hC.1
  refine ⟨r2, M2, ⟨⟨by omega, by omega⟩, fun p e R s m args below meth c H locs cells slots ls hA hR hl hc hs' hL => ?_⟩, hQ⟩
  intro T hT X
  subst hst
  have hA' := hA
  obtain ⟨hx, hb, hml, -, -, -, hown, hKK, hts, hh, hal, hfr, hlo⟩ := hA'
  obtain ⟨v, s9, t, T', L', h0, X', hL', e1, e2, ⟨hv, hrep⟩, go⟩ := zRunSW (g := F0 m pc ls ((As.reverse ++ st).map mcv)) (rest := st.map mcv) (As := As.map mcv) ⟨hx, hb, hml, hown, hts⟩ hC.2 (n := n) h1 h2 h4 h5 rfl rfl hd2 (m_room hfr hlo hnL) ⟨mPre_blind, fun U hU hW9 => ⟨rfl, mPre_at hKK hh hal hR hU hW9⟩⟩ rfl (by rw [List.length_map]; exact hn) hL.1 (by show (As.reverse ++ st).map mcv = _; rw [List.map_append, List.map_reverse]) (by rw [m_cats]; show 2 * 0 + _ ≤ 8; omega) hd ⟨by omega, by omega⟩ T hT X
  have hv' : v = some (mcv (vi x)) := Outcome.returned.inj hv
  subst hv'
  obtain ⟨t2, a1, b1⟩ := hE p e R s m args below meth c T'.heap (locs ++ L') (cells + (mZ M1 - mZ M)) (slots + (mS M1 - mS M)) ls hA (by rw [e1]; exact hrep) (t_lL hl hL') (by omega) (by omega) hL T' rfl X'
  refine ⟨t2, go t2 a1, ?_⟩
  rw [show cells + (mZ M2 - mZ M) = cells + (mZ M1 - mZ M) + (mZ M2 - mZ M1) by omega, show slots + (mS M2 - mS M) = slots + (mS M1 - mS M) + (mS M2 - mS M1) by omega]
  exact b1
/-- the first row of the table takes it -/
theorem mClW.first {c b idx n k v : Nat} {k0 : Fin 4} {cls : String} {r0 : vw_C} {t9 : Nat → FieldType} (hcl : vwCl[c]? = some r0) (hty : vwTy[c]? = some t9) (hr0 : r0.1 = y2.1.cls) (h1 : Cond.methodLink y.1.cls idx y2.1 ∈ lw_R) (h2 : Cond.instanceMethod y2.1 ∈ lw_R) (h3 : Cond.selects y2.1.cls y2.1 y2.1 ∈ lw_R) (h4 : Cond.initialized y2.1.cls ∈ lw_R) (h5 : yC y2 ∈ lw_R) (hd2 : y2.1.cls ≠ "java/lang/invoke/MethodHandle" ∧ y2.1.cls ≠ "java/lang/invoke/VarHandle" ∧ (parseMethodDescriptor y2.1.desc).map (fun d => d.parameters.length) = some n) (hnL : y2.2.2.1 ≤ 45) (hn : As.length = n) (hW : (st.map mcat).sum ≤ 8) (hd : decode y.2.1 pc = .ok (.invokevirtual idx, 3)) (hKb : mK M b = c + 1)
    (hp : plainName y.1.cls = true) (hlen : (mEnt args).length ≤ y.2.2.1) (hL : mEnt args ++ List.replicate (y.2.2.1 - (mEnt args).length) vd = L) (hr : y.2.2.2 = some .int) (hM : mCt G y2 d (vr b :: As) M cls) (go : mGo G y (d + 1) L M 0 [] pc (As.reverse ++ vr b :: st))
    (x1 : ExceptionTableEntry) (more : List ExceptionTableEntry) (hsp : tableOf hs = x1 :: more) (hcov : covers x1 pc = true) (hx0 : x1.catchType ≠ 0) (kl : Cond.classLink y.1.cls x1.catchType cls ∈ lw_R) (kc : Cond.castable cls cls ∈ lw_R) (hd0 : decode y.2.1 x1.handlerPc = .ok (.astore_n k0, 1)) (hk : (k0 : Nat) = k) (hkl : k < y.2.2.1) (hd1 : decode y.2.1 (x1.handlerPc + 1) = .ok (.iconst (v : Int), 1)) (hd3 : decode y.2.1 (x1.handlerPc + 1 + 1) = .ok (.ireturn, 1)) : mClW G y hs (d + 1) args M (some (vi (v : Int))) (mNew M 50 0 6) := by
  refine ⟨⟨Nat.le_succ _, Nat.le_add_right _ _⟩, ?_⟩
  rw [show mZ (mNew M 50 0 6) - mZ M = 1 by show mZ M + 1 - mZ M = 1; omega, show mS (mNew M 50 0 6) - mS M = 6 by show mS M + 6 - mS M = 6; omega]
  refine va_MetW (cc := y.2.1) (maxL := y.2.2.1) (ret := y.2.2.2) (hh := hs) hp rfl ?_
  intro p e s m args9 below meth co s₁ B hml hv
  obtain ⟨rfl, hRep, hK, hh, hal⟩ := hv
  have hl := lv_entry (args.map mcv) (n := y.2.2.1) (by rw [mEnt_len]; exact hlen)
  rw [lg_entry_eq]
  generalize (lg_sl (args.map mcv) ++ List.replicate (y.2.2.1 - (lg_sl (args.map mcv)).length) Slot.unset).toArray = ls at hl ⊢
  have hLs : mLs ls y.2.2.1 L := by
    refine ⟨hl.1, hl.2.1, fun i v hi hv => ?_⟩
    rw [← hL] at hi
    by_cases q : i < (mEnt args).length
    · rw [List.getElem?_append_left q] at hi
      have := mEnt_args args 0 i v hi hv
      rw [Nat.zero_add] at this
      exact hl.2.2 _ this
    · rw [List.getElem?_append_right (by omega)] at hi
      have := List.mem_of_getElem? hi
      rw [List.eq_of_mem_replicate this] at hv
      cases hv
  have ht : co.exceptionTable.toList = tableOf hs := by
    obtain ⟨m9, meth9, c9, hn9, h1, h2, -, -, h6, -⟩ := Cond.codeWith_spec (atoms_spec (ws := zW (yW y hs)) B.pre _ List.mem_cons_self)
    cases Option.some.inj (hn9.symm.trans B.named)
    cases Option.some.inj (h1.symm.trans B.method)
    cases Option.some.inj (h2.symm.trans (Stand.of_body B).code)
    rw [← h6, table_eq]
  have hA : mAt G y (d + 1) p (headSpec (zW (yW y hs)) { frames := d + 1, cells := 1, slots := 6, locals := 64 * (d + 1) }).room s m (args.map mcv).toArray meth co := ⟨B.exec, B.bytes, hml, B.returns, B.notSynchronized, (name_of_methodNamed B.named B.method).1, findClass_of_methodNamed B.named, hK, hh.use _, hh, hal, Nat.le_refl _, Nat.le_refl _⟩
  refine go p e _ s m (args.map mcv).toArray below meth co s.heap [] 0 0 ls _ hA hRep hLs (Nat.zero_le _) (Nat.zero_le _) ?_
  obtain ⟨hx, hb, hml9, hret, hlk, -, hown, hKK, hts, -, -, hfr, hlo⟩ := hA
  obtain ⟨hb1, cell, q1, q2, q3, q4⟩ := (hRep.2.2.2.2.2.2 b).1 c _ t9 hKb hcl hty
  have hbv : mcv (vr b) = .ref b := hRep.own hb1
  have hM' := hM
  unfold mCt at hM'
  rw [List.map_cons, hbv] at hM'
  rw [List.map_append, List.map_cons, hbv, List.map_reverse]
  refine xCallV (As := As.map mcv) (rest := st.map mcv) ⟨hx, hb, hml9, hown, hts⟩ hM' (C := y2.1.cls) (n := n) ⟨callB_of n hts (zGood h5 rfl) rfl rfl rfl (hts _ h4) (hts _ h1) hd2 (m_room hfr hlo hnL), hts _ h2, hts _ h3⟩ ⟨mPre_blind, ⟨cell, q1, by rw [q3]; rfl, by rw [q2, ← hr0]; exact (hKK.1 c _ hcl).2.1⟩, fun U hU hW9 => ⟨rfl, mPre_at hKK hh hal hRep hU hW9⟩⟩ (by rw [List.length_map]; exact hn) hLs.1 (by rw [m_cats]; show 2 * 0 + _ ≤ 8; omega) hd ⟨Nat.le_refl _, Nat.le_refl _⟩ (fun v9 st₀ t L9 h0 hwm hL9 hw hq => ?_) (fun x9 st₀ t L9 h0 hwm hL9 hw hq T9 hT9 X9 => ?_)
  · obtain ⟨a, ce, ho, -⟩ := hq
    cases ho
  · obtain ⟨a, ce, ho, hce, hv, hcl9, hrep⟩ := hq
    cases ho
    have hE : s.vm.findClass cls = some ce.cls := by rw [← hwm.alike.findClass]; exact hcl9
    refine xCatch1 hown x1 more (by rw [ht]; exact hsp) hcov hx0 (hts _ kl) (hts _ kc) hce hv hE ?_ hT9 X9
    refine lv_astore_n (lv := []) hx hb hd0 hk ⟨hLs.1, hLs.2.1, fun q hq => by cases hq⟩ hkl rfl (fun ls' hl' => ?_)
    refine lv_iconst (v := Int32.ofInt (v : Int)) hx hb hd1 rfl ?_
    exact W.zret hx hb (hret.trans hr) rfl (fun t2 ht2 hW2 => ⟨rfl, by rw [ht2]; exact hrep⟩) (fun q hq => hL9 q (by simpa using hq)) hd3 hlk
/-- as the first, but the exception goes into a far local -/
theorem mClW.firstF {c b idx n k v : Nat} {k0 : Fin 4} {cls : String} {r0 : vw_C} {t9 : Nat → FieldType} (hcl : vwCl[c]? = some r0) (hty : vwTy[c]? = some t9) (hr0 : r0.1 = y2.1.cls) (h1 : Cond.methodLink y.1.cls idx y2.1 ∈ lw_R) (h2 : Cond.instanceMethod y2.1 ∈ lw_R) (h3 : Cond.selects y2.1.cls y2.1 y2.1 ∈ lw_R) (h4 : Cond.initialized y2.1.cls ∈ lw_R) (h5 : yC y2 ∈ lw_R) (hd2 : y2.1.cls ≠ "java/lang/invoke/MethodHandle" ∧ y2.1.cls ≠ "java/lang/invoke/VarHandle" ∧ (parseMethodDescriptor y2.1.desc).map (fun d => d.parameters.length) = some n) (hnL : y2.2.2.1 ≤ 45) (hn : As.length = n) (hW : (st.map mcat).sum ≤ 8) (hd : decode y.2.1 pc = .ok (.invokevirtual idx, 3)) (hKb : mK M b = c + 1)
    (hp : plainName y.1.cls = true) (hlen : (mEnt args).length ≤ y.2.2.1) (hL : mEnt args ++ List.replicate (y.2.2.1 - (mEnt args).length) vd = L) (hr : y.2.2.2 = some .int) (hM : mCt G y2 d (vr b :: As) M cls) (go : mGo G y (d + 1) L M 0 [] pc (As.reverse ++ vr b :: st))
    (x1 : ExceptionTableEntry) (more : List ExceptionTableEntry) (hsp : tableOf hs = x1 :: more) (hcov : covers x1 pc = true) (hx0 : x1.catchType ≠ 0) (kl : Cond.classLink y.1.cls x1.catchType cls ∈ lw_R) (kc : Cond.castable cls cls ∈ lw_R) (hd0 : decode y.2.1 x1.handlerPc = .ok (.astore k, 2)) (hkl : k < y.2.2.1) (hd1 : decode y.2.1 (x1.handlerPc + 2) = .ok (.iconst (v : Int), 1)) (hd3 : decode y.2.1 (x1.handlerPc + 2 + 1) = .ok (.ireturn, 1)) : mClW G y hs (d + 1) args M (some (vi (v : Int))) (mNew M 50 0 6) := by
  refine ⟨⟨Nat.le_succ _, Nat.le_add_right _ _⟩, ?_⟩
  rw [show mZ (mNew M 50 0 6) - mZ M = 1 by show mZ M + 1 - mZ M = 1; omega, show mS (mNew M 50 0 6) - mS M = 6 by show mS M + 6 - mS M = 6; omega]
  refine va_MetW (cc := y.2.1) (maxL := y.2.2.1) (ret := y.2.2.2) (hh := hs) hp rfl ?_
  intro p e s m args9 below meth co s₁ B hml hv
  obtain ⟨rfl, hRep, hK, hh, hal⟩ := hv
  have hl := lv_entry (args.map mcv) (n := y.2.2.1) (by rw [mEnt_len]; exact hlen)
  rw [lg_entry_eq]
  generalize (lg_sl (args.map mcv) ++ List.replicate (y.2.2.1 - (lg_sl (args.map mcv)).length) Slot.unset).toArray = ls at hl ⊢
  have hLs : mLs ls y.2.2.1 L := by
    refine ⟨hl.1, hl.2.1, fun i v hi hv => ?_⟩
    rw [← hL] at hi
    by_cases q : i < (mEnt args).length
    · rw [List.getElem?_append_left q] at hi
      have := mEnt_args args 0 i v hi hv
      rw [Nat.zero_add] at this
      exact hl.2.2 _ this
    · rw [List.getElem?_append_right (by omega)] at hi
      have := List.mem_of_getElem? hi
      rw [List.eq_of_mem_replicate this] at hv
      cases hv
  have ht : co.exceptionTable.toList = tableOf hs := by
    obtain ⟨m9, meth9, c9, hn9, h1, h2, -, -, h6, -⟩ := Cond.codeWith_spec (atoms_spec (ws := zW (yW y hs)) B.pre _ List.mem_cons_self)
    cases Option.some.inj (hn9.symm.trans B.named)
    cases Option.some.inj (h1.symm.trans B.method)
    cases Option.some.inj (h2.symm.trans (Stand.of_body B).code)
    rw [← h6, table_eq]
  have hA : mAt G y (d + 1) p (headSpec (zW (yW y hs)) { frames := d + 1, cells := 1, slots := 6, locals := 64 * (d + 1) }).room s m (args.map mcv).toArray meth co := ⟨B.exec, B.bytes, hml, B.returns, B.notSynchronized, (name_of_methodNamed B.named B.method).1, findClass_of_methodNamed B.named, hK, hh.use _, hh, hal, Nat.le_refl _, Nat.le_refl _⟩
  refine go p e _ s m (args.map mcv).toArray below meth co s.heap [] 0 0 ls _ hA hRep hLs (Nat.zero_le _) (Nat.zero_le _) ?_
  obtain ⟨hx, hb, hml9, hret, hlk, -, hown, hKK, hts, -, -, hfr, hlo⟩ := hA
  obtain ⟨hb1, cell, q1, q2, q3, q4⟩ := (hRep.2.2.2.2.2.2 b).1 c _ t9 hKb hcl hty
  have hbv : mcv (vr b) = .ref b := hRep.own hb1
  have hM' := hM
  unfold mCt at hM'
  rw [List.map_cons, hbv] at hM'
  rw [List.map_append, List.map_cons, hbv, List.map_reverse]
  refine xCallV (As := As.map mcv) (rest := st.map mcv) ⟨hx, hb, hml9, hown, hts⟩ hM' (C := y2.1.cls) (n := n) ⟨callB_of n hts (zGood h5 rfl) rfl rfl rfl (hts _ h4) (hts _ h1) hd2 (m_room hfr hlo hnL), hts _ h2, hts _ h3⟩ ⟨mPre_blind, ⟨cell, q1, by rw [q3]; rfl, by rw [q2, ← hr0]; exact (hKK.1 c _ hcl).2.1⟩, fun U hU hW9 => ⟨rfl, mPre_at hKK hh hal hRep hU hW9⟩⟩ (by rw [List.length_map]; exact hn) hLs.1 (by rw [m_cats]; show 2 * 0 + _ ≤ 8; omega) hd ⟨Nat.le_refl _, Nat.le_refl _⟩ (fun v9 st₀ t L9 h0 hwm hL9 hw hq => ?_) (fun x9 st₀ t L9 h0 hwm hL9 hw hq T9 hT9 X9 => ?_)
  · obtain ⟨a, ce, ho, -⟩ := hq
    cases ho
  · obtain ⟨a, ce, ho, hce, hv, hcl9, hrep⟩ := hq
    cases ho
    have hE : s.vm.findClass cls = some ce.cls := by rw [← hwm.alike.findClass]; exact hcl9
    refine xCatch1 hown x1 more (by rw [ht]; exact hsp) hcov hx0 (hts _ kl) (hts _ kc) hce hv hE ?_ hT9 X9
    refine lv_astore (lv := []) hx hb hd0 ⟨hLs.1, hLs.2.1, fun q hq => by cases hq⟩ hkl rfl (fun ls' hl' => ?_)
    refine lv_iconst (v := Int32.ofInt (v : Int)) hx hb hd1 rfl ?_
    exact W.zret hx hb (hret.trans hr) rfl (fun t2 ht2 hW2 => ⟨rfl, by rw [ht2]; exact hrep⟩) (fun q hq => hL9 q (by simpa using hq)) hd3 hlk
/-- the second row takes it -/
theorem mClW.second {c b idx n k v : Nat} {k0 : Fin 4} {cls : String} {r0 : vw_C} {t9 : Nat → FieldType} (hcl : vwCl[c]? = some r0) (hty : vwTy[c]? = some t9) (hr0 : r0.1 = y2.1.cls) (h1 : Cond.methodLink y.1.cls idx y2.1 ∈ lw_R) (h2 : Cond.instanceMethod y2.1 ∈ lw_R) (h3 : Cond.selects y2.1.cls y2.1 y2.1 ∈ lw_R) (h4 : Cond.initialized y2.1.cls ∈ lw_R) (h5 : yC y2 ∈ lw_R) (hd2 : y2.1.cls ≠ "java/lang/invoke/MethodHandle" ∧ y2.1.cls ≠ "java/lang/invoke/VarHandle" ∧ (parseMethodDescriptor y2.1.desc).map (fun d => d.parameters.length) = some n) (hnL : y2.2.2.1 ≤ 45) (hn : As.length = n) (hW : (st.map mcat).sum ≤ 8) (hd : decode y.2.1 pc = .ok (.invokevirtual idx, 3)) (hKb : mK M b = c + 1)
    (hp : plainName y.1.cls = true) (hlen : (mEnt args).length ≤ y.2.2.1) (hL : mEnt args ++ List.replicate (y.2.2.1 - (mEnt args).length) vd = L) (hr : y.2.2.2 = some .int) (hM : mCt G y2 d (vr b :: As) M cls) (go : mGo G y (d + 1) L M 0 [] pc (As.reverse ++ vr b :: st))
    {cls1 : String} (x1 x2 : ExceptionTableEntry) (more : List ExceptionTableEntry) (hsp : tableOf hs = x1 :: x2 :: more) (hcov1 : covers x1 pc = true) (hx01 : x1.catchType ≠ 0) (hcov : covers x2 pc = true) (hx0 : x2.catchType ≠ 0) (kl1 : Cond.classLink y.1.cls x1.catchType cls1 ∈ lw_R) (hNo : va_Nc cls cls1 (gS G)) (kl : Cond.classLink y.1.cls x2.catchType cls ∈ lw_R) (kc : Cond.castable cls cls ∈ lw_R) (hd0 : decode y.2.1 x2.handlerPc = .ok (.astore_n k0, 1)) (hk : (k0 : Nat) = k) (hkl : k < y.2.2.1) (hd1 : decode y.2.1 (x2.handlerPc + 1) = .ok (.iconst (v : Int), 1)) (hd3 : decode y.2.1 (x2.handlerPc + 1 + 1) = .ok (.ireturn, 1)) : mClW G y hs (d + 1) args M (some (vi (v : Int))) (mNew M 50 0 6) := by
  refine ⟨⟨Nat.le_succ _, Nat.le_add_right _ _⟩, ?_⟩
  rw [show mZ (mNew M 50 0 6) - mZ M = 1 by show mZ M + 1 - mZ M = 1; omega, show mS (mNew M 50 0 6) - mS M = 6 by show mS M + 6 - mS M = 6; omega]
  refine va_MetW (cc := y.2.1) (maxL := y.2.2.1) (ret := y.2.2.2) (hh := hs) hp rfl ?_
  intro p e s m args9 below meth co s₁ B hml hv
  obtain ⟨rfl, hRep, hK, hh, hal⟩ := hv
  have hl := lv_entry (args.map mcv) (n := y.2.2.1) (by rw [mEnt_len]; exact hlen)
  rw [lg_entry_eq]
  generalize (lg_sl (args.map mcv) ++ List.replicate (y.2.2.1 - (lg_sl (args.map mcv)).length) Slot.unset).toArray = ls at hl ⊢
  have hLs : mLs ls y.2.2.1 L := by
    refine ⟨hl.1, hl.2.1, fun i v hi hv => ?_⟩
    rw [← hL] at hi
    by_cases q : i < (mEnt args).length
    · rw [List.getElem?_append_left q] at hi
      have := mEnt_args args 0 i v hi hv
      rw [Nat.zero_add] at this
      exact hl.2.2 _ this
    · rw [List.getElem?_append_right (by omega)] at hi
      have := List.mem_of_getElem? hi
      rw [List.eq_of_mem_replicate this] at hv
      cases hv
  have ht : co.exceptionTable.toList = tableOf hs := by
    obtain ⟨m9, meth9, c9, hn9, h1, h2, -, -, h6, -⟩ := Cond.codeWith_spec (atoms_spec (ws := zW (yW y hs)) B.pre _ List.mem_cons_self)
    cases Option.some.inj (hn9.symm.trans B.named)
    cases Option.some.inj (h1.symm.trans B.method)
    cases Option.some.inj (h2.symm.trans (Stand.of_body B).code)
    rw [← h6, table_eq]
  have hA : mAt G y (d + 1) p (headSpec (zW (yW y hs)) { frames := d + 1, cells := 1, slots := 6, locals := 64 * (d + 1) }).room s m (args.map mcv).toArray meth co := ⟨B.exec, B.bytes, hml, B.returns, B.notSynchronized, (name_of_methodNamed B.named B.method).1, findClass_of_methodNamed B.named, hK, hh.use _, hh, hal, Nat.le_refl _, Nat.le_refl _⟩
  refine go p e _ s m (args.map mcv).toArray below meth co s.heap [] 0 0 ls _ hA hRep hLs (Nat.zero_le _) (Nat.zero_le _) ?_
  obtain ⟨hx, hb, hml9, hret, hlk, -, hown, hKK, hts, -, -, hfr, hlo⟩ := hA
  obtain ⟨hb1, cell, q1, q2, q3, q4⟩ := (hRep.2.2.2.2.2.2 b).1 c _ t9 hKb hcl hty
  have hbv : mcv (vr b) = .ref b := hRep.own hb1
  have hM' := hM
  unfold mCt at hM'
  rw [List.map_cons, hbv] at hM'
  rw [List.map_append, List.map_cons, hbv, List.map_reverse]
  refine xCallV (As := As.map mcv) (rest := st.map mcv) ⟨hx, hb, hml9, hown, hts⟩ hM' (C := y2.1.cls) (n := n) ⟨callB_of n hts (zGood h5 rfl) rfl rfl rfl (hts _ h4) (hts _ h1) hd2 (m_room hfr hlo hnL), hts _ h2, hts _ h3⟩ ⟨mPre_blind, ⟨cell, q1, by rw [q3]; rfl, by rw [q2, ← hr0]; exact (hKK.1 c _ hcl).2.1⟩, fun U hU hW9 => ⟨rfl, mPre_at hKK hh hal hRep hU hW9⟩⟩ (by rw [List.length_map]; exact hn) hLs.1 (by rw [m_cats]; show 2 * 0 + _ ≤ 8; omega) hd ⟨Nat.le_refl _, Nat.le_refl _⟩ (fun v9 st₀ t L9 h0 hwm hL9 hw hq => ?_) (fun x9 st₀ t L9 h0 hwm hL9 hw hq T9 hT9 X9 => ?_)
  · obtain ⟨a, ce, ho, -⟩ := hq
    cases ho
  · obtain ⟨a, ce, ho, hce, hv, hcl9, hrep⟩ := hq
    cases ho
    have hE : s.vm.findClass cls = some ce.cls := by rw [← hwm.alike.findClass]; exact hcl9
    refine xCatch2 hown x1 x2 more (by rw [ht]; exact hsp) hcov1 hx01 hcov hx0 (hts _ kl1) (hNo.moved hal.1) (hts _ kl) (hts _ kc) hce hv hE ?_ hT9 X9
    refine lv_astore_n (lv := []) hx hb hd0 hk ⟨hLs.1, hLs.2.1, fun q hq => by cases hq⟩ hkl rfl (fun ls' hl' => ?_)
    refine lv_iconst (v := Int32.ofInt (v : Int)) hx hb hd1 rfl ?_
    exact W.zret hx hb (hret.trans hr) rfl (fun t2 ht2 hW2 => ⟨rfl, by rw [ht2]; exact hrep⟩) (fun q hq => hL9 q (by simpa using hq)) hd3 hlk
end HEL
end
section
/-! The law's helpers where the class throws. -/
def y_La_end : mY := (({ cls := "ChanceArenaLaw", name := "end", desc := "(LChanceArena;I[J)I" } : Jvm.MethodName), method_3_code, 4, (Option.some Jvm.ClassFile.FieldType.int))
def hs_end : List (Nat × Nat × Nat × Nat) := [(0, 9, 12, 13)]
theorem d_La_end_0 : decode y_La_end.2.1 0 = .ok (.aload_n 2, 1) := dc9_44 (by decide +kernel)
theorem d_La_end_1 : decode y_La_end.2.1 1 = .ok (.iconst 0, 1) := dc9_3 (by decide +kernel)
theorem d_La_end_2 : decode y_La_end.2.1 2 = .ok (.aload_n 0, 1) := dc9_42 (by decide +kernel)
theorem d_La_end_3 : decode y_La_end.2.1 3 = .ok (.iload_n 1, 1) := dc9_27 (by decide +kernel)
theorem d_La_end_4 : decode y_La_end.2.1 4 = .ok (.invokevirtual 7, 3) := dc9_182 (by decide +kernel)
theorem d_La_end_7 : decode y_La_end.2.1 7 = .ok (.i2l, 1) := dc9_133 (by decide +kernel)
theorem d_La_end_8 : decode y_La_end.2.1 8 = .ok (.lastore, 1) := dc9_80 (by decide +kernel)
theorem d_La_end_9 : decode y_La_end.2.1 9 = .ok (.goto 6, 3) := dc9_167 (by decide +kernel)
theorem d_La_end_12 : decode y_La_end.2.1 12 = .ok (.astore_n 3, 1) := dc9_78 (by decide +kernel)
theorem d_La_end_13 : decode y_La_end.2.1 13 = .ok (.iconst 1, 1) := dc9_4 (by decide +kernel)
theorem d_La_end_14 : decode y_La_end.2.1 14 = .ok (.ireturn, 1) := dc9_172 (by decide +kernel)
theorem d_La_end_15 : decode y_La_end.2.1 15 = .ok (.iconst 0, 1) := dc9_3 (by decide +kernel)
theorem d_La_end_16 : decode y_La_end.2.1 16 = .ok (.ireturn, 1) := dc9_172 (by decide +kernel)
theorem kh_7_176 : (Jvm.Cond.methodLink "ChanceArenaLaw" (7 : Nat) ({ cls := "ChanceArena", name := "end", desc := "(I)I" } : Jvm.MethodName)) ∈ lw_R := zR (zk_7 _ (List.mem_of_getElem? (i := 188) rfl)) rfl
theorem kh_7_177 : (Jvm.Cond.instanceMethod ({ cls := "ChanceArena", name := "end", desc := "(I)I" } : Jvm.MethodName)) ∈ lw_R := zR (zk_7 _ (List.mem_of_getElem? (i := 189) rfl)) rfl
theorem kh_7_178 : (Jvm.Cond.selects "ChanceArena" ({ cls := "ChanceArena", name := "end", desc := "(I)I" } : Jvm.MethodName) ({ cls := "ChanceArena", name := "end", desc := "(I)I" } : Jvm.MethodName)) ∈ lw_R := zR (zk_7 _ (List.mem_of_getElem? (i := 190) rfl)) rfl
theorem kh_7_179 : (Jvm.Cond.code ({ cls := "ChanceArena", name := "end", desc := "(I)I" } : Jvm.MethodName) prog_1_method_5_code (2 : Nat) (Option.some Jvm.ClassFile.FieldType.int)) ∈ lw_R := zR (zk_7 _ (List.mem_of_getElem? (i := 191) rfl)) rfl
theorem kh_7_175 : (Jvm.Cond.classLink "ChanceArenaLaw" (13 : Nat) "java/lang/IllegalArgumentException") ∈ lw_R := zR (zk_7 _ (List.mem_of_getElem? (i := 187) rfl)) rfl
theorem kh_6_8 : (Jvm.Cond.castable "java/lang/IllegalArgumentException" "java/lang/IllegalArgumentException") ∈ lw_R := zR (zk_6 _ (List.mem_of_getElem? (i := 20) rfl)) rfl
theorem x_La_end {G : mG} {M : mM} {d t o : Nat} {l l1 l2 : Int} (kt : mK M t = 1) (hM : mCt G y_CA_end d [vr t, vi l] M "java/lang/IllegalArgumentException") : mClW G y_La_end hs_end (d + 1) [vr t, vi l, vr o] M (some (vi 1)) (mNew M 50 0 6) := by
  refine mClW.first (y2 := y_CA_end) (As := [vi l]) (st := [vi 0, vr o]) (pc := 4) (c := 0) (n := 1) (k := 3) (v := 1) (L := [vr t, vi l, vr o, vd]) rfl rfl rfl kh_7_176 kh_7_177 kh_7_178 k1_1 kh_7_179 ⟨by decide, by decide, by decide +kernel⟩ (by decide) rfl (Nat.le_of_ble_eq_true rfl) d_La_end_4 kt rfl (Nat.le_of_ble_eq_true rfl) rfl rfl hM ?_ ⟨0, 9, 12, 13⟩ [] rfl (by decide) (by decide) kh_7_175 kh_6_8 d_La_end_12 rfl (by decide) d_La_end_13 d_La_end_14
  refine go_aload_n d_La_end_0 rfl rfl ?_
  refine go_iconst d_La_end_1 ?_
  refine go_aload_n d_La_end_2 rfl rfl ?_
  refine go_iload_n d_La_end_3 rfl rfl ?_
  exact mGo.refl
def y_La_explore : mY := (({ cls := "ChanceArenaLaw", name := "explore", desc := "(LChanceArena;[J)I" } : Jvm.MethodName), method_4_code, 3, (Option.some Jvm.ClassFile.FieldType.int))
def hs_explore : List (Nat × Nat × Nat × Nat) := [(0, 8, 11, 19)]
theorem d_La_explore_0 : decode y_La_explore.2.1 0 = .ok (.aload_n 1, 1) := dc9_43 (by decide +kernel)
theorem d_La_explore_1 : decode y_La_explore.2.1 1 = .ok (.iconst 0, 1) := dc9_3 (by decide +kernel)
theorem d_La_explore_2 : decode y_La_explore.2.1 2 = .ok (.aload_n 0, 1) := dc9_42 (by decide +kernel)
theorem d_La_explore_3 : decode y_La_explore.2.1 3 = .ok (.invokevirtual 15, 3) := dc9_182 (by decide +kernel)
theorem d_La_explore_6 : decode y_La_explore.2.1 6 = .ok (.i2l, 1) := dc9_133 (by decide +kernel)
theorem d_La_explore_7 : decode y_La_explore.2.1 7 = .ok (.lastore, 1) := dc9_80 (by decide +kernel)
theorem d_La_explore_8 : decode y_La_explore.2.1 8 = .ok (.goto 6, 3) := dc9_167 (by decide +kernel)
theorem d_La_explore_11 : decode y_La_explore.2.1 11 = .ok (.astore_n 2, 1) := dc9_77 (by decide +kernel)
theorem d_La_explore_12 : decode y_La_explore.2.1 12 = .ok (.iconst 1, 1) := dc9_4 (by decide +kernel)
theorem d_La_explore_13 : decode y_La_explore.2.1 13 = .ok (.ireturn, 1) := dc9_172 (by decide +kernel)
theorem d_La_explore_14 : decode y_La_explore.2.1 14 = .ok (.iconst 0, 1) := dc9_3 (by decide +kernel)
theorem d_La_explore_15 : decode y_La_explore.2.1 15 = .ok (.ireturn, 1) := dc9_172 (by decide +kernel)
theorem kh_7_195 : (Jvm.Cond.methodLink "ChanceArenaLaw" (15 : Nat) ({ cls := "ChanceArena", name := "explore", desc := "()I" } : Jvm.MethodName)) ∈ lw_R := zR (zk_7 _ (List.mem_of_getElem? (i := 207) rfl)) rfl
theorem kh_7_196 : (Jvm.Cond.instanceMethod ({ cls := "ChanceArena", name := "explore", desc := "()I" } : Jvm.MethodName)) ∈ lw_R := zR (zk_7 _ (List.mem_of_getElem? (i := 208) rfl)) rfl
theorem kh_7_197 : (Jvm.Cond.selects "ChanceArena" ({ cls := "ChanceArena", name := "explore", desc := "()I" } : Jvm.MethodName) ({ cls := "ChanceArena", name := "explore", desc := "()I" } : Jvm.MethodName)) ∈ lw_R := zR (zk_7 _ (List.mem_of_getElem? (i := 209) rfl)) rfl
theorem kh_7_198 : (Jvm.Cond.code ({ cls := "ChanceArena", name := "explore", desc := "()I" } : Jvm.MethodName) prog_1_method_10_code (2 : Nat) (Option.some Jvm.ClassFile.FieldType.int)) ∈ lw_R := zR (zk_7 _ (List.mem_of_getElem? (i := 210) rfl)) rfl
theorem kh_7_194 : (Jvm.Cond.classLink "ChanceArenaLaw" (19 : Nat) "java/lang/IllegalStateException") ∈ lw_R := zR (zk_7 _ (List.mem_of_getElem? (i := 206) rfl)) rfl
theorem kh_7_201 : (Jvm.Cond.castable "java/lang/IllegalStateException" "java/lang/IllegalStateException") ∈ lw_R := zR (zk_7 _ (List.mem_of_getElem? (i := 213) rfl)) rfl
theorem x_La_explore {G : mG} {M : mM} {d t o : Nat} {l l1 l2 : Int} (kt : mK M t = 1) (hM : mCt G y_CA_explore d [vr t] M "java/lang/IllegalStateException") : mClW G y_La_explore hs_explore (d + 1) [vr t, vr o] M (some (vi 1)) (mNew M 50 0 6) := by
  refine mClW.first (y2 := y_CA_explore) (As := []) (st := [vi 0, vr o]) (pc := 3) (c := 0) (n := 0) (k := 2) (v := 1) (L := [vr t, vr o, vd]) rfl rfl rfl kh_7_195 kh_7_196 kh_7_197 k1_1 kh_7_198 ⟨by decide, by decide, by decide +kernel⟩ (by decide) rfl (Nat.le_of_ble_eq_true rfl) d_La_explore_3 kt rfl (Nat.le_of_ble_eq_true rfl) rfl rfl hM ?_ ⟨0, 8, 11, 19⟩ [] rfl (by decide) (by decide) kh_7_194 kh_7_201 d_La_explore_11 rfl (by decide) d_La_explore_12 d_La_explore_13
  refine go_aload_n d_La_explore_0 rfl rfl ?_
  refine go_iconst d_La_explore_1 ?_
  refine go_aload_n d_La_explore_2 rfl rfl ?_
  exact mGo.refl
def y_La_variable : mY := (({ cls := "ChanceArenaLaw", name := "variable", desc := "(LChanceArena;II[J)I" } : Jvm.MethodName), method_5_code, 5, (Option.some Jvm.ClassFile.FieldType.int))
def hs_variable : List (Nat × Nat × Nat × Nat) := [(0, 10, 13, 25)]
theorem d_La_variable_0 : decode y_La_variable.2.1 0 = .ok (.aload_n 3, 1) := dc9_45 (by decide +kernel)
theorem d_La_variable_1 : decode y_La_variable.2.1 1 = .ok (.iconst 0, 1) := dc9_3 (by decide +kernel)
theorem d_La_variable_2 : decode y_La_variable.2.1 2 = .ok (.aload_n 0, 1) := dc9_42 (by decide +kernel)
theorem d_La_variable_3 : decode y_La_variable.2.1 3 = .ok (.iload_n 1, 1) := dc9_27 (by decide +kernel)
theorem d_La_variable_4 : decode y_La_variable.2.1 4 = .ok (.iload_n 2, 1) := dc9_28 (by decide +kernel)
theorem d_La_variable_5 : decode y_La_variable.2.1 5 = .ok (.invokevirtual 21, 3) := dc9_182 (by decide +kernel)
theorem d_La_variable_8 : decode y_La_variable.2.1 8 = .ok (.i2l, 1) := dc9_133 (by decide +kernel)
theorem d_La_variable_9 : decode y_La_variable.2.1 9 = .ok (.lastore, 1) := dc9_80 (by decide +kernel)
theorem d_La_variable_10 : decode y_La_variable.2.1 10 = .ok (.goto 7, 3) := dc9_167 (by decide +kernel)
theorem d_La_variable_13 : decode y_La_variable.2.1 13 = .ok (.astore 4, 2) := dc9_58 (by decide +kernel)
theorem d_La_variable_15 : decode y_La_variable.2.1 15 = .ok (.iconst 1, 1) := dc9_4 (by decide +kernel)
theorem d_La_variable_16 : decode y_La_variable.2.1 16 = .ok (.ireturn, 1) := dc9_172 (by decide +kernel)
theorem d_La_variable_17 : decode y_La_variable.2.1 17 = .ok (.iconst 0, 1) := dc9_3 (by decide +kernel)
theorem d_La_variable_18 : decode y_La_variable.2.1 18 = .ok (.ireturn, 1) := dc9_172 (by decide +kernel)
theorem kh_8_31 : (Jvm.Cond.methodLink "ChanceArenaLaw" (21 : Nat) ({ cls := "ChanceArena", name := "variable", desc := "(II)I" } : Jvm.MethodName)) ∈ lw_R := zR (zk_8 _ (List.mem_of_getElem? (i := 43) rfl)) rfl
theorem kh_8_32 : (Jvm.Cond.instanceMethod ({ cls := "ChanceArena", name := "variable", desc := "(II)I" } : Jvm.MethodName)) ∈ lw_R := zR (zk_8 _ (List.mem_of_getElem? (i := 44) rfl)) rfl
theorem kh_8_33 : (Jvm.Cond.selects "ChanceArena" ({ cls := "ChanceArena", name := "variable", desc := "(II)I" } : Jvm.MethodName) ({ cls := "ChanceArena", name := "variable", desc := "(II)I" } : Jvm.MethodName)) ∈ lw_R := zR (zk_8 _ (List.mem_of_getElem? (i := 45) rfl)) rfl
theorem kh_8_34 : (Jvm.Cond.code ({ cls := "ChanceArena", name := "variable", desc := "(II)I" } : Jvm.MethodName) prog_1_method_13_code (3 : Nat) (Option.some Jvm.ClassFile.FieldType.int)) ∈ lw_R := zR (zk_8 _ (List.mem_of_getElem? (i := 46) rfl)) rfl
theorem kh_8_30 : (Jvm.Cond.classLink "ChanceArenaLaw" (25 : Nat) "java/lang/IndexOutOfBoundsException") ∈ lw_R := zR (zk_8 _ (List.mem_of_getElem? (i := 42) rfl)) rfl
theorem kh_8_37 : (Jvm.Cond.castable "java/lang/IndexOutOfBoundsException" "java/lang/IndexOutOfBoundsException") ∈ lw_R := zR (zk_8 _ (List.mem_of_getElem? (i := 49) rfl)) rfl
theorem x_La_variable {G : mG} {M : mM} {d t o : Nat} {l l1 l2 : Int} (kt : mK M t = 1) (hM : mCt G y_CA_variable d [vr t, vi l1, vi l2] M "java/lang/IndexOutOfBoundsException") : mClW G y_La_variable hs_variable (d + 1) [vr t, vi l1, vi l2, vr o] M (some (vi 1)) (mNew M 50 0 6) := by
  refine mClW.firstF (k0 := 0) (y2 := y_CA_variable) (As := [vi l1, vi l2]) (st := [vi 0, vr o]) (pc := 5) (c := 0) (n := 2) (k := 4) (v := 1) (L := [vr t, vi l1, vi l2, vr o, vd]) rfl rfl rfl kh_8_31 kh_8_32 kh_8_33 k1_1 kh_8_34 ⟨by decide, by decide, by decide +kernel⟩ (by decide) rfl (Nat.le_of_ble_eq_true rfl) d_La_variable_5 kt rfl (Nat.le_of_ble_eq_true rfl) rfl rfl hM ?_ ⟨0, 10, 13, 25⟩ [] rfl (by decide) (by decide) kh_8_30 kh_8_37 d_La_variable_13 (by decide) d_La_variable_15 d_La_variable_16
  refine go_aload_n d_La_variable_0 rfl rfl ?_
  refine go_iconst d_La_variable_1 ?_
  refine go_aload_n d_La_variable_2 rfl rfl ?_
  refine go_iload_n d_La_variable_3 rfl rfl ?_
  refine go_iload_n d_La_variable_4 rfl rfl ?_
  exact mGo.refl
def y_La_solve : mY := (({ cls := "ChanceArenaLaw", name := "solve", desc := "(LChanceArena;[J)I" } : Jvm.MethodName), method_6_code, 3, (Option.some Jvm.ClassFile.FieldType.int))
def hs_solve : List (Nat × Nat × Nat × Nat) := [(0, 8, 11, 19)]
theorem d_La_solve_0 : decode y_La_solve.2.1 0 = .ok (.aload_n 1, 1) := dc9_43 (by decide +kernel)
theorem d_La_solve_1 : decode y_La_solve.2.1 1 = .ok (.iconst 0, 1) := dc9_3 (by decide +kernel)
theorem d_La_solve_2 : decode y_La_solve.2.1 2 = .ok (.aload_n 0, 1) := dc9_42 (by decide +kernel)
theorem d_La_solve_3 : decode y_La_solve.2.1 3 = .ok (.invokevirtual 27, 3) := dc9_182 (by decide +kernel)
theorem d_La_solve_6 : decode y_La_solve.2.1 6 = .ok (.i2l, 1) := dc9_133 (by decide +kernel)
theorem d_La_solve_7 : decode y_La_solve.2.1 7 = .ok (.lastore, 1) := dc9_80 (by decide +kernel)
theorem d_La_solve_8 : decode y_La_solve.2.1 8 = .ok (.goto 6, 3) := dc9_167 (by decide +kernel)
theorem d_La_solve_11 : decode y_La_solve.2.1 11 = .ok (.astore_n 2, 1) := dc9_77 (by decide +kernel)
theorem d_La_solve_12 : decode y_La_solve.2.1 12 = .ok (.iconst 1, 1) := dc9_4 (by decide +kernel)
theorem d_La_solve_13 : decode y_La_solve.2.1 13 = .ok (.ireturn, 1) := dc9_172 (by decide +kernel)
theorem d_La_solve_14 : decode y_La_solve.2.1 14 = .ok (.iconst 0, 1) := dc9_3 (by decide +kernel)
theorem d_La_solve_15 : decode y_La_solve.2.1 15 = .ok (.ireturn, 1) := dc9_172 (by decide +kernel)
theorem kh_8_53 : (Jvm.Cond.methodLink "ChanceArenaLaw" (27 : Nat) ({ cls := "ChanceArena", name := "solve", desc := "()I" } : Jvm.MethodName)) ∈ lw_R := zR (zk_8 _ (List.mem_of_getElem? (i := 65) rfl)) rfl
theorem kh_8_54 : (Jvm.Cond.instanceMethod ({ cls := "ChanceArena", name := "solve", desc := "()I" } : Jvm.MethodName)) ∈ lw_R := zR (zk_8 _ (List.mem_of_getElem? (i := 66) rfl)) rfl
theorem kh_8_55 : (Jvm.Cond.selects "ChanceArena" ({ cls := "ChanceArena", name := "solve", desc := "()I" } : Jvm.MethodName) ({ cls := "ChanceArena", name := "solve", desc := "()I" } : Jvm.MethodName)) ∈ lw_R := zR (zk_8 _ (List.mem_of_getElem? (i := 67) rfl)) rfl
theorem kh_8_56 : (Jvm.Cond.code ({ cls := "ChanceArena", name := "solve", desc := "()I" } : Jvm.MethodName) prog_1_method_19_code (2 : Nat) (Option.some Jvm.ClassFile.FieldType.int)) ∈ lw_R := zR (zk_8 _ (List.mem_of_getElem? (i := 68) rfl)) rfl
theorem x_La_solve {G : mG} {M : mM} {d t o : Nat} {l l1 l2 : Int} (kt : mK M t = 1) (hM : mCt G y_CA_solve d [vr t] M "java/lang/IllegalStateException") : mClW G y_La_solve hs_solve (d + 1) [vr t, vr o] M (some (vi 1)) (mNew M 50 0 6) := by
  refine mClW.first (y2 := y_CA_solve) (As := []) (st := [vi 0, vr o]) (pc := 3) (c := 0) (n := 0) (k := 2) (v := 1) (L := [vr t, vr o, vd]) rfl rfl rfl kh_8_53 kh_8_54 kh_8_55 k1_1 kh_8_56 ⟨by decide, by decide, by decide +kernel⟩ (by decide) rfl (Nat.le_of_ble_eq_true rfl) d_La_solve_3 kt rfl (Nat.le_of_ble_eq_true rfl) rfl rfl hM ?_ ⟨0, 8, 11, 19⟩ [] rfl (by decide) (by decide) kh_7_194 kh_7_201 d_La_solve_11 rfl (by decide) d_La_solve_12 d_La_solve_13
  refine go_aload_n d_La_solve_0 rfl rfl ?_
  refine go_iconst d_La_solve_1 ?_
  refine go_aload_n d_La_solve_2 rfl rfl ?_
  exact mGo.refl
def y_La_within : mY := (({ cls := "ChanceArenaLaw", name := "within", desc := "(LChanceArena;I[J)I" } : Jvm.MethodName), method_7_code, 4, (Option.some Jvm.ClassFile.FieldType.int))
def hs_within : List (Nat × Nat × Nat × Nat) := [(0, 9, 12, 13), (0, 9, 15, 19)]
theorem d_La_within_0 : decode y_La_within.2.1 0 = .ok (.aload_n 2, 1) := dc9_44 (by decide +kernel)
theorem d_La_within_1 : decode y_La_within.2.1 1 = .ok (.iconst 0, 1) := dc9_3 (by decide +kernel)
theorem d_La_within_2 : decode y_La_within.2.1 2 = .ok (.aload_n 0, 1) := dc9_42 (by decide +kernel)
theorem d_La_within_3 : decode y_La_within.2.1 3 = .ok (.iload_n 1, 1) := dc9_27 (by decide +kernel)
theorem d_La_within_4 : decode y_La_within.2.1 4 = .ok (.invokevirtual 30, 3) := dc9_182 (by decide +kernel)
theorem d_La_within_7 : decode y_La_within.2.1 7 = .ok (.i2l, 1) := dc9_133 (by decide +kernel)
theorem d_La_within_8 : decode y_La_within.2.1 8 = .ok (.lastore, 1) := dc9_80 (by decide +kernel)
theorem d_La_within_9 : decode y_La_within.2.1 9 = .ok (.goto 9, 3) := dc9_167 (by decide +kernel)
theorem d_La_within_12 : decode y_La_within.2.1 12 = .ok (.astore_n 3, 1) := dc9_78 (by decide +kernel)
theorem d_La_within_13 : decode y_La_within.2.1 13 = .ok (.iconst 1, 1) := dc9_4 (by decide +kernel)
theorem d_La_within_14 : decode y_La_within.2.1 14 = .ok (.ireturn, 1) := dc9_172 (by decide +kernel)
theorem d_La_within_15 : decode y_La_within.2.1 15 = .ok (.astore_n 3, 1) := dc9_78 (by decide +kernel)
theorem d_La_within_16 : decode y_La_within.2.1 16 = .ok (.iconst 2, 1) := dc9_5 (by decide +kernel)
theorem d_La_within_17 : decode y_La_within.2.1 17 = .ok (.ireturn, 1) := dc9_172 (by decide +kernel)
theorem d_La_within_18 : decode y_La_within.2.1 18 = .ok (.iconst 0, 1) := dc9_3 (by decide +kernel)
theorem d_La_within_19 : decode y_La_within.2.1 19 = .ok (.ireturn, 1) := dc9_172 (by decide +kernel)
theorem kh_8_160 : (Jvm.Cond.methodLink "ChanceArenaLaw" (30 : Nat) ({ cls := "ChanceArena", name := "within", desc := "(I)I" } : Jvm.MethodName)) ∈ lw_R := zR (zk_8 _ (List.mem_of_getElem? (i := 195) rfl)) rfl
theorem kh_8_161 : (Jvm.Cond.instanceMethod ({ cls := "ChanceArena", name := "within", desc := "(I)I" } : Jvm.MethodName)) ∈ lw_R := zR (zk_8 _ (List.mem_of_getElem? (i := 196) rfl)) rfl
theorem kh_8_162 : (Jvm.Cond.selects "ChanceArena" ({ cls := "ChanceArena", name := "within", desc := "(I)I" } : Jvm.MethodName) ({ cls := "ChanceArena", name := "within", desc := "(I)I" } : Jvm.MethodName)) ∈ lw_R := zR (zk_8 _ (List.mem_of_getElem? (i := 197) rfl)) rfl
theorem kh_8_163 : (Jvm.Cond.code ({ cls := "ChanceArena", name := "within", desc := "(I)I" } : Jvm.MethodName) prog_1_method_20_code (4 : Nat) (Option.some Jvm.ClassFile.FieldType.int)) ∈ lw_R := zR (zk_8 _ (List.mem_of_getElem? (i := 198) rfl)) rfl
theorem x_La_within1 {G : mG} {M : mM} {d t o : Nat} {l l1 l2 : Int} (kt : mK M t = 1) (hM : mCt G y_CA_within d [vr t, vi l] M "java/lang/IllegalArgumentException") : mClW G y_La_within hs_within (d + 1) [vr t, vi l, vr o] M (some (vi 1)) (mNew M 50 0 6) := by
  refine mClW.first (y2 := y_CA_within) (As := [vi l]) (st := [vi 0, vr o]) (pc := 4) (c := 0) (n := 1) (k := 3) (v := 1) (L := [vr t, vi l, vr o, vd]) rfl rfl rfl kh_8_160 kh_8_161 kh_8_162 k1_1 kh_8_163 ⟨by decide, by decide, by decide +kernel⟩ (by decide) rfl (Nat.le_of_ble_eq_true rfl) d_La_within_4 kt rfl (Nat.le_of_ble_eq_true rfl) rfl rfl hM ?_ ⟨0, 9, 12, 13⟩ [⟨0, 9, 15, 19⟩] rfl (by decide) (by decide) kh_7_175 kh_6_8 d_La_within_12 rfl (by decide) d_La_within_13 d_La_within_14
  refine go_aload_n d_La_within_0 rfl rfl ?_
  refine go_iconst d_La_within_1 ?_
  refine go_aload_n d_La_within_2 rfl rfl ?_
  refine go_iload_n d_La_within_3 rfl rfl ?_
  exact mGo.refl
theorem x_La_within2 {G : mG} {M : mM} {d t o : Nat} {l l1 l2 : Int} (kt : mK M t = 1) (hNo : va_Nc "java/lang/IllegalStateException" "java/lang/IllegalArgumentException" (gS G)) (hM : mCt G y_CA_within d [vr t, vi l] M "java/lang/IllegalStateException") : mClW G y_La_within hs_within (d + 1) [vr t, vi l, vr o] M (some (vi 2)) (mNew M 50 0 6) := by
  refine mClW.second (y2 := y_CA_within) (As := [vi l]) (st := [vi 0, vr o]) (pc := 4) (c := 0) (n := 1) (k := 3) (v := 2) (L := [vr t, vi l, vr o, vd]) rfl rfl rfl kh_8_160 kh_8_161 kh_8_162 k1_1 kh_8_163 ⟨by decide, by decide, by decide +kernel⟩ (by decide) rfl (Nat.le_of_ble_eq_true rfl) d_La_within_4 kt rfl (Nat.le_of_ble_eq_true rfl) rfl rfl hM ?_ (cls1 := "java/lang/IllegalArgumentException") ⟨0, 9, 12, 13⟩ ⟨0, 9, 15, 19⟩ [] rfl (by decide) (by decide) (by decide) (by decide) kh_7_175 hNo kh_7_194 kh_7_201 d_La_within_15 rfl (by decide) d_La_within_16 d_La_within_17
  refine go_aload_n d_La_within_0 rfl rfl ?_
  refine go_iconst d_La_within_1 ?_
  refine go_aload_n d_La_within_2 rfl rfl ?_
  refine go_iload_n d_La_within_3 rfl rfl ?_
  exact mGo.refl
def y_La_choose : mY := (({ cls := "ChanceArenaLaw", name := "choose", desc := "(LChanceArena;II)I" } : Jvm.MethodName), method_8_code, 4, (Option.some Jvm.ClassFile.FieldType.int))
def hs_choose : List (Nat × Nat × Nat × Nat) := [(0, 6, 9, 25)]
theorem d_La_choose_0 : decode y_La_choose.2.1 0 = .ok (.aload_n 0, 1) := dc9_42 (by decide +kernel)
theorem d_La_choose_1 : decode y_La_choose.2.1 1 = .ok (.iload_n 1, 1) := dc9_27 (by decide +kernel)
theorem d_La_choose_2 : decode y_La_choose.2.1 2 = .ok (.iload_n 2, 1) := dc9_28 (by decide +kernel)
theorem d_La_choose_3 : decode y_La_choose.2.1 3 = .ok (.invokevirtual 33, 3) := dc9_182 (by decide +kernel)
theorem d_La_choose_6 : decode y_La_choose.2.1 6 = .ok (.goto 6, 3) := dc9_167 (by decide +kernel)
theorem d_La_choose_9 : decode y_La_choose.2.1 9 = .ok (.astore_n 3, 1) := dc9_78 (by decide +kernel)
theorem d_La_choose_10 : decode y_La_choose.2.1 10 = .ok (.iconst 1, 1) := dc9_4 (by decide +kernel)
theorem d_La_choose_11 : decode y_La_choose.2.1 11 = .ok (.ireturn, 1) := dc9_172 (by decide +kernel)
theorem d_La_choose_12 : decode y_La_choose.2.1 12 = .ok (.iconst 0, 1) := dc9_3 (by decide +kernel)
theorem d_La_choose_13 : decode y_La_choose.2.1 13 = .ok (.ireturn, 1) := dc9_172 (by decide +kernel)
theorem kh_8_180 : (Jvm.Cond.methodLink "ChanceArenaLaw" (33 : Nat) ({ cls := "ChanceArena", name := "choose", desc := "(II)V" } : Jvm.MethodName)) ∈ lw_R := zR (zk_8 _ (List.mem_of_getElem? (i := 215) rfl)) rfl
theorem kh_8_181 : (Jvm.Cond.instanceMethod ({ cls := "ChanceArena", name := "choose", desc := "(II)V" } : Jvm.MethodName)) ∈ lw_R := zR (zk_8 _ (List.mem_of_getElem? (i := 216) rfl)) rfl
theorem kh_8_182 : (Jvm.Cond.selects "ChanceArena" ({ cls := "ChanceArena", name := "choose", desc := "(II)V" } : Jvm.MethodName) ({ cls := "ChanceArena", name := "choose", desc := "(II)V" } : Jvm.MethodName)) ∈ lw_R := zR (zk_8 _ (List.mem_of_getElem? (i := 217) rfl)) rfl
theorem kh_8_183 : (Jvm.Cond.code ({ cls := "ChanceArena", name := "choose", desc := "(II)V" } : Jvm.MethodName) prog_1_method_21_code (3 : Nat) (Option.none : Option Jvm.ClassFile.FieldType)) ∈ lw_R := zR (zk_8 _ (List.mem_of_getElem? (i := 218) rfl)) rfl
theorem x_La_choose {G : mG} {M : mM} {d t o : Nat} {l l1 l2 : Int} (kt : mK M t = 1) (hM : mCt G y_CA_choose d [vr t, vi l1, vi l2] M "java/lang/IndexOutOfBoundsException") : mClW G y_La_choose hs_choose (d + 1) [vr t, vi l1, vi l2] M (some (vi 1)) (mNew M 50 0 6) := by
  refine mClW.first (y2 := y_CA_choose) (As := [vi l1, vi l2]) (st := []) (pc := 3) (c := 0) (n := 2) (k := 3) (v := 1) (L := [vr t, vi l1, vi l2, vd]) rfl rfl rfl kh_8_180 kh_8_181 kh_8_182 k1_1 kh_8_183 ⟨by decide, by decide, by decide +kernel⟩ (by decide) rfl (Nat.le_of_ble_eq_true rfl) d_La_choose_3 kt rfl (Nat.le_of_ble_eq_true rfl) rfl rfl hM ?_ ⟨0, 6, 9, 25⟩ [] rfl (by decide) (by decide) kh_8_30 kh_8_37 d_La_choose_9 rfl (by decide) d_La_choose_10 d_La_choose_11
  refine go_aload_n d_La_choose_0 rfl rfl ?_
  refine go_iload_n d_La_choose_1 rfl rfl ?_
  refine go_iload_n d_La_choose_2 rfl rfl ?_
  exact mGo.refl
def y_La_adopt : mY := (({ cls := "ChanceArenaLaw", name := "adopt", desc := "(LChanceArena;)I" } : Jvm.MethodName), method_9_code, 2, (Option.some Jvm.ClassFile.FieldType.int))
def hs_adopt : List (Nat × Nat × Nat × Nat) := [(0, 4, 7, 19)]
theorem d_La_adopt_0 : decode y_La_adopt.2.1 0 = .ok (.aload_n 0, 1) := dc9_42 (by decide +kernel)
theorem d_La_adopt_1 : decode y_La_adopt.2.1 1 = .ok (.invokevirtual 37, 3) := dc9_182 (by decide +kernel)
theorem d_La_adopt_4 : decode y_La_adopt.2.1 4 = .ok (.goto 6, 3) := dc9_167 (by decide +kernel)
theorem d_La_adopt_7 : decode y_La_adopt.2.1 7 = .ok (.astore_n 1, 1) := dc9_76 (by decide +kernel)
theorem d_La_adopt_8 : decode y_La_adopt.2.1 8 = .ok (.iconst 1, 1) := dc9_4 (by decide +kernel)
theorem d_La_adopt_9 : decode y_La_adopt.2.1 9 = .ok (.ireturn, 1) := dc9_172 (by decide +kernel)
theorem d_La_adopt_10 : decode y_La_adopt.2.1 10 = .ok (.iconst 0, 1) := dc9_3 (by decide +kernel)
theorem d_La_adopt_11 : decode y_La_adopt.2.1 11 = .ok (.ireturn, 1) := dc9_172 (by decide +kernel)
theorem kh_8_187 : (Jvm.Cond.methodLink "ChanceArenaLaw" (37 : Nat) ({ cls := "ChanceArena", name := "adopt", desc := "()V" } : Jvm.MethodName)) ∈ lw_R := zR (zk_8 _ (List.mem_of_getElem? (i := 222) rfl)) rfl
theorem kh_8_188 : (Jvm.Cond.instanceMethod ({ cls := "ChanceArena", name := "adopt", desc := "()V" } : Jvm.MethodName)) ∈ lw_R := zR (zk_8 _ (List.mem_of_getElem? (i := 223) rfl)) rfl
theorem kh_8_189 : (Jvm.Cond.selects "ChanceArena" ({ cls := "ChanceArena", name := "adopt", desc := "()V" } : Jvm.MethodName) ({ cls := "ChanceArena", name := "adopt", desc := "()V" } : Jvm.MethodName)) ∈ lw_R := zR (zk_8 _ (List.mem_of_getElem? (i := 224) rfl)) rfl
theorem kh_8_190 : (Jvm.Cond.code ({ cls := "ChanceArena", name := "adopt", desc := "()V" } : Jvm.MethodName) prog_1_method_22_code (2 : Nat) (Option.none : Option Jvm.ClassFile.FieldType)) ∈ lw_R := zR (zk_8 _ (List.mem_of_getElem? (i := 225) rfl)) rfl
theorem x_La_adopt {G : mG} {M : mM} {d t o : Nat} {l l1 l2 : Int} (kt : mK M t = 1) (hM : mCt G y_CA_adopt d [vr t] M "java/lang/IllegalStateException") : mClW G y_La_adopt hs_adopt (d + 1) [vr t] M (some (vi 1)) (mNew M 50 0 6) := by
  refine mClW.first (y2 := y_CA_adopt) (As := []) (st := []) (pc := 1) (c := 0) (n := 0) (k := 1) (v := 1) (L := [vr t, vd]) rfl rfl rfl kh_8_187 kh_8_188 kh_8_189 k1_1 kh_8_190 ⟨by decide, by decide, by decide +kernel⟩ (by decide) rfl (Nat.le_of_ble_eq_true rfl) d_La_adopt_1 kt rfl (Nat.le_of_ble_eq_true rfl) rfl rfl hM ?_ ⟨0, 4, 7, 19⟩ [] rfl (by decide) (by decide) kh_7_194 kh_7_201 d_La_adopt_7 rfl (by decide) d_La_adopt_8 d_La_adopt_9
  refine go_aload_n d_La_adopt_0 rfl rfl ?_
  exact mGo.refl
def y_La_judge : mY := (({ cls := "ChanceArenaLaw", name := "judge", desc := "(LChanceArena;I[J)I" } : Jvm.MethodName), method_10_code, 4, (Option.some Jvm.ClassFile.FieldType.int))
def hs_judge : List (Nat × Nat × Nat × Nat) := [(0, 9, 12, 13), (0, 9, 15, 19)]
theorem d_La_judge_0 : decode y_La_judge.2.1 0 = .ok (.aload_n 2, 1) := dc9_44 (by decide +kernel)
theorem d_La_judge_1 : decode y_La_judge.2.1 1 = .ok (.iconst 0, 1) := dc9_3 (by decide +kernel)
theorem d_La_judge_2 : decode y_La_judge.2.1 2 = .ok (.aload_n 0, 1) := dc9_42 (by decide +kernel)
theorem d_La_judge_3 : decode y_La_judge.2.1 3 = .ok (.iload_n 1, 1) := dc9_27 (by decide +kernel)
theorem d_La_judge_4 : decode y_La_judge.2.1 4 = .ok (.invokevirtual 40, 3) := dc9_182 (by decide +kernel)
theorem d_La_judge_7 : decode y_La_judge.2.1 7 = .ok (.i2l, 1) := dc9_133 (by decide +kernel)
theorem d_La_judge_8 : decode y_La_judge.2.1 8 = .ok (.lastore, 1) := dc9_80 (by decide +kernel)
theorem d_La_judge_9 : decode y_La_judge.2.1 9 = .ok (.goto 9, 3) := dc9_167 (by decide +kernel)
theorem d_La_judge_12 : decode y_La_judge.2.1 12 = .ok (.astore_n 3, 1) := dc9_78 (by decide +kernel)
theorem d_La_judge_13 : decode y_La_judge.2.1 13 = .ok (.iconst 1, 1) := dc9_4 (by decide +kernel)
theorem d_La_judge_14 : decode y_La_judge.2.1 14 = .ok (.ireturn, 1) := dc9_172 (by decide +kernel)
theorem d_La_judge_15 : decode y_La_judge.2.1 15 = .ok (.astore_n 3, 1) := dc9_78 (by decide +kernel)
theorem d_La_judge_16 : decode y_La_judge.2.1 16 = .ok (.iconst 2, 1) := dc9_5 (by decide +kernel)
theorem d_La_judge_17 : decode y_La_judge.2.1 17 = .ok (.ireturn, 1) := dc9_172 (by decide +kernel)
theorem d_La_judge_18 : decode y_La_judge.2.1 18 = .ok (.iconst 0, 1) := dc9_3 (by decide +kernel)
theorem d_La_judge_19 : decode y_La_judge.2.1 19 = .ok (.ireturn, 1) := dc9_172 (by decide +kernel)
theorem kh_8_195 : (Jvm.Cond.methodLink "ChanceArenaLaw" (40 : Nat) ({ cls := "ChanceArena", name := "judge", desc := "(I)I" } : Jvm.MethodName)) ∈ lw_R := zR (zk_8 _ (List.mem_of_getElem? (i := 230) rfl)) rfl
theorem kh_8_196 : (Jvm.Cond.instanceMethod ({ cls := "ChanceArena", name := "judge", desc := "(I)I" } : Jvm.MethodName)) ∈ lw_R := zR (zk_8 _ (List.mem_of_getElem? (i := 231) rfl)) rfl
theorem kh_8_197 : (Jvm.Cond.selects "ChanceArena" ({ cls := "ChanceArena", name := "judge", desc := "(I)I" } : Jvm.MethodName) ({ cls := "ChanceArena", name := "judge", desc := "(I)I" } : Jvm.MethodName)) ∈ lw_R := zR (zk_8 _ (List.mem_of_getElem? (i := 232) rfl)) rfl
theorem kh_8_198 : (Jvm.Cond.code ({ cls := "ChanceArena", name := "judge", desc := "(I)I" } : Jvm.MethodName) prog_1_method_23_code (2 : Nat) (Option.some Jvm.ClassFile.FieldType.int)) ∈ lw_R := zR (zk_8 _ (List.mem_of_getElem? (i := 233) rfl)) rfl
theorem x_La_judge1 {G : mG} {M : mM} {d t o : Nat} {l l1 l2 : Int} (kt : mK M t = 1) (hM : mCt G y_CA_judge d [vr t, vi l] M "java/lang/IllegalArgumentException") : mClW G y_La_judge hs_judge (d + 1) [vr t, vi l, vr o] M (some (vi 1)) (mNew M 50 0 6) := by
  refine mClW.first (y2 := y_CA_judge) (As := [vi l]) (st := [vi 0, vr o]) (pc := 4) (c := 0) (n := 1) (k := 3) (v := 1) (L := [vr t, vi l, vr o, vd]) rfl rfl rfl kh_8_195 kh_8_196 kh_8_197 k1_1 kh_8_198 ⟨by decide, by decide, by decide +kernel⟩ (by decide) rfl (Nat.le_of_ble_eq_true rfl) d_La_judge_4 kt rfl (Nat.le_of_ble_eq_true rfl) rfl rfl hM ?_ ⟨0, 9, 12, 13⟩ [⟨0, 9, 15, 19⟩] rfl (by decide) (by decide) kh_7_175 kh_6_8 d_La_judge_12 rfl (by decide) d_La_judge_13 d_La_judge_14
  refine go_aload_n d_La_judge_0 rfl rfl ?_
  refine go_iconst d_La_judge_1 ?_
  refine go_aload_n d_La_judge_2 rfl rfl ?_
  refine go_iload_n d_La_judge_3 rfl rfl ?_
  exact mGo.refl
theorem x_La_judge2 {G : mG} {M : mM} {d t o : Nat} {l l1 l2 : Int} (kt : mK M t = 1) (hNo : va_Nc "java/lang/IllegalStateException" "java/lang/IllegalArgumentException" (gS G)) (hM : mCt G y_CA_judge d [vr t, vi l] M "java/lang/IllegalStateException") : mClW G y_La_judge hs_judge (d + 1) [vr t, vi l, vr o] M (some (vi 2)) (mNew M 50 0 6) := by
  refine mClW.second (y2 := y_CA_judge) (As := [vi l]) (st := [vi 0, vr o]) (pc := 4) (c := 0) (n := 1) (k := 3) (v := 2) (L := [vr t, vi l, vr o, vd]) rfl rfl rfl kh_8_195 kh_8_196 kh_8_197 k1_1 kh_8_198 ⟨by decide, by decide, by decide +kernel⟩ (by decide) rfl (Nat.le_of_ble_eq_true rfl) d_La_judge_4 kt rfl (Nat.le_of_ble_eq_true rfl) rfl rfl hM ?_ (cls1 := "java/lang/IllegalArgumentException") ⟨0, 9, 12, 13⟩ ⟨0, 9, 15, 19⟩ [] rfl (by decide) (by decide) (by decide) (by decide) kh_7_175 hNo kh_7_194 kh_7_201 d_La_judge_15 rfl (by decide) d_La_judge_16 d_La_judge_17
  refine go_aload_n d_La_judge_0 rfl rfl ?_
  refine go_iconst d_La_judge_1 ?_
  refine go_aload_n d_La_judge_2 rfl rfl ?_
  refine go_iload_n d_La_judge_3 rfl rfl ?_
  exact mGo.refl
end
section
/-! The law's script: an old array of ints, which may lie at address 0. -/
section SCR
variable {G : mG} {y : mY} {d pc : Nat} {L st : List mV} {M : mM} {Q : Option mV → mM → Prop}
theorem wm_ialdV {a : Nat} {i : Int} (hd : decode y.2.1 pc = .ok (.iaload, 1)) (hK : mK M a = 40) (hi : 0 ≤ i ∧ i < mN M a) (h : mWm G y d (pc + 1) L (vi (mI M a i.toNat) :: st) M Q) : mWm G y d pc L (vi i :: vo a :: st) M Q :=
  wm_st (fun p e R s m args below meth co H locs cells slots ls Qf hA hR hL kk => by
    obtain ⟨g1, g2, cell, g3, g4, g5, g6, g7⟩ := (hR.2.2.2.2.2.2 a).2.2 hK
    obtain ⟨hx, hb, -, -, -, -, hown, hKK, hts, -, hvm, -⟩ := hA
    have hi3 : i32 i := ⟨by omega, by omega⟩
    exact W.iald (v := mcv (vi (mI M a i.toNat))) hx hb g3 (State.isArrayOf_alike hvm.1 g4) g5 (by rw [g6]; exact i32_in hi g2) (by rw [i32_clamp hi3]; exact g7 _ (by omega)) rfl rfl hd kk) h
theorem wm_alenV {a : Nat} (hd : decode y.2.1 pc = .ok (.arraylength, 1)) (hK : mK M a = 40) (h : mWm G y d (pc + 1) L (vi (mN M a : Int) :: st) M Q) : mWm G y d pc L (vo a :: st) M Q :=
  wm_st (fun p e R s m args below meth co H locs cells slots ls Qf hA hR hL kk => by
    obtain ⟨g1, g2, cell, g3, g4, g5, g6, g7⟩ := (hR.2.2.2.2.2.2 a).2.2 hK
    obtain ⟨hx, hb, -, -, -, -, hown, hKK, hts, -, hvm, -⟩ := hA
    exact W.alen (n := Int32.ofInt (mN M a : Int)) hx hb g3 (State.isArrayOf_alike hvm.1 g4) (by rw [g6]; rfl) rfl rfl hd kk) h
end SCR
end
