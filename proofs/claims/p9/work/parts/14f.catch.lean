/-! An exception that comes out of a call is caught here: the row's class may be resolved by the search itself. -/
def xFinds (e : Env) (s : State) (f : JFrame) (a : Addr) (h : Handler) (vm9 : Vm) : Prop :=
  ∀ (Q : Handler → Pre) (E : CtlPost) (d : Bool) (acts : List Action), wp (findHandler f a) Q E e d acts s ↔ Q h d acts (s.setVm vm9)
section Go
variable {Q : Handler → Pre} {E : CtlPost} {e : Env} {d : Bool} {acts : List Action} {s : State} {f : JFrame} {a : Addr}
/-- a row that covers the place: its class is resolved; the object is of it, or the search goes on -/
theorem xGo {x : ExceptionTableEntry} {t : List ExceptionTableEntry} {c : ClassId} {cell : Cell} (hx : covers x f.pc = true) (h0 : x.catchType ≠ 0)
    (hl : s.vm.ClassLinks e.platform f.method.cls x.catchType c) (hcell : s.heap[a]? = some cell) (hobj : ∀ k, cell.vm ≠ .statics k)
    (hk : ∃ k, s.vm.classes[cell.cls]? = some k) (hc : ∃ k, s.vm.classes[c]? = some k) {b : Bool} (hfit : s.vm.assignable cell.cls c = b) :
    wp (findHandler.go f a (x :: t)) Q E e d acts s ↔ if b = true then Q (.found x.handlerPc) d acts (s.setVm (s.vm.noted f.method.cls x.catchType (.cls c))) else wp (findHandler.go f a t) Q E e d acts (s.setVm (s.vm.noted f.method.cls x.catchType (.cls c))) := by
  simp only [covers] at hx
  obtain ⟨ha, ht⟩ := (resolveClass_links e.toSetting hl).op (op := VmOp.resolveClass f.method.cls x.catchType) rfl
  have hal : s.vm.Alike (s.vm.noted f.method.cls x.catchType (.cls c)) := (Vm.Alike.refl s.vm).noted _ _ _
  obtain ⟨k1, hk1⟩ := hk
  obtain ⟨k2, hk2⟩ := hc
  obtain ⟨k3, hk3, -⟩ := hal.2.2 _ _ hk1
  obtain ⟨k4, hk4, -⟩ := hal.2.2 _ _ hk2
  have hfit9 : (s.vm.noted f.method.cls x.catchType (.cls c)).assignable cell.cls c = b := by rw [hal.assignable]; exact hfit
  cases b <;> simp [findHandler.go, hx, h0, ha, ht, hcell, hobj, hk3, hk4, hfit9, VmOp.dirties, VmOp.acts]
end Go
theorem xStep {e : Env} {s : State} {a : Addr} {f : JFrame} {r : List Frame} {pc : Nat} {vm9 : Vm} (hfind : xFinds e s f a (.found pc) vm9) :
    (stepThrowing e s a (.java f :: r)).Is ((s.setVm vm9).setFrames (.java { f with pc := pc, stack := [.ref a] } :: r)) [] := by
  simp only [stepThrowing, searchFrame, vmDo]
  generalize hr : Sem.go _ e false [] s = res
  obtain ⟨as, rfl, ha⟩ := Sem.eq_ok_of hr (a := Handler.found pc) (s' := s.setVm vm9) (acts' := []) (by simp [hfind _ _ _ _])
  exact ⟨rfl, ha⟩
theorem xSteps {tb : Tables} {e : Env} {s target : State} {g : JFrame} {c : Code} {below : List Frame} {a : Addr} (h : At s g.method c below) {pc : Nat} {vm9 : Vm}
    (hfind : xFinds e ((s.setTop g).pushFrame (.throwing a)) g a (.found pc) vm9) (hrest : Steps tb e below ((s.setVm vm9).setTop { g with pc := pc, stack := [.ref a] }) target) :
    Steps tb e below ((s.setTop g).pushFrame (.throwing a)) target := by
  obtain ⟨hgo, hw⟩ := h.throwing a
  refine Steps.head hgo hw ?_
  rw [stepThread_throwing (frames_entered h.top _), (xStep (s := (s.setTop g).pushFrame (.throwing a)) hfind).1]
  obtain ⟨g₀, hg⟩ := Option.isSome_iff_exists.mp h.top
  obtain ⟨r, hr⟩ := State.topJava?_eq_some.mp hg
  have hr9 : (s.setVm vm9).frames = .java g₀ :: r := hr
  have hff : ∀ (u : State) (F G : List Frame), ((u.setFrames F).setVm vm9).setFrames G = (u.setVm vm9).setFrames G := fun u F G => by
    have h1 : (u.setFrames F).setVm vm9 = (u.setVm vm9).setFrames F := rfl
    rw [h1, State.setFrames_setFrames]
  rw [State.setTop_of_frames _ hr9] at hrest
  rw [hr, List.tail_cons, State.pushFrame, hff, State.setTop_of_frames _ hr, hff]
  exact hrest
section Caught
variable {p : Program} {l : Launch} {e : Env} {R : Room} {s : State} {m : MethodId} {args : Array Value} {below : List Frame} {meth : Method} {c : Code} {T : State} {H : Heap} {locs : List Loc} {cells slots : Nat} {Q : State → Prop}
/-- the first row takes it -/
theorem xCatch1 {own name E : String} {a pc : Nat} {ls : Array Slot} {rest : List Value} (hown : s.vm.findClass own = some m.cls) (x : ExceptionTableEntry) (more : List ExceptionTableEntry) (hsplit : c.exceptionTable.toList = x :: more) (hx : covers x pc = true) (h0 : x.catchType ≠ 0)
    (hlink : (Cond.classLink own x.catchType name).before args s = true) (hcast : (Cond.castable E name).before args s = true) {ce : Cell} (hcell : H[a]? = some ce) (hv : ce.vm = .none) (hE : s.vm.findClass E = some ce.cls)
    (kk : W p l e R s m args below meth c H locs cells slots Q (F0 m x.handlerPc ls [.ref a])) (hT : T.heap = H) (X : Stand p l e R s m args below meth c T locs cells slots) :
    ∃ t, Steps p.tables e below ((T.setTop (F0 m pc ls rest)).pushFrame (.throwing a)) t ∧ Q t := by
  have hpl : e.platform.magicAccessors = ({} : Platform).magicAccessors := by rw [X.admits.platform]
  obtain ⟨c3, cT, hc3, hcT, hasg⟩ := Cond.castable_spec hcast
  cases hE.symm.trans hc3
  obtain ⟨c4, hc4, hcl⟩ := Cond.classLink_spec hown hlink e.platform hpl
  cases hcT.symm.trans hc4
  obtain ⟨dk, _, _, kt, hd, _, _, _, _, hkt, _, hopen⟩ := hcl.here
  have hcl₀ := X.warmed.classLinks hcl
  have hW9 : s.WarmedH (T.vm.noted m.cls x.catchType (.cls cT)) := X.warmed.noted hd hopen (State.rightAt_cls hcl)
  have hal := X.warmed.alike
  obtain ⟨kt9, hkt9, -⟩ := hal.2.2 _ _ hkt
  have hfit : T.vm.assignable ce.cls cT = true := by rw [hal.assignable]; exact hasg
  obtain ⟨t, a1, b1⟩ := kk (T.setVm (T.vm.noted m.cls x.catchType (.cls cT))) hT (X.noted hW9)
  refine ⟨t, ?_, b1⟩
  refine xSteps (g := F0 m pc ls rest) X.here ?_ a1
  intro Q9 E9 d9 acts9
  rw [Jvm.W.findHandler_eq (meth := meth) (code := c) X.method' X.code, hsplit]
  rw [xGo (s := (T.setTop (F0 m pc ls rest)).pushFrame (.throwing a)) (f := F0 m pc ls rest) (c := cT) (cell := ce) (b := true) hx h0 hcl₀ (by show T.heap[a]? = _; rw [hT]; exact hcell) (VmData.ne_statics_of (by rw [hv]; rfl)) (Vm.classAt_of_assignable hfit ⟨kt9, hkt9⟩) ⟨kt9, hkt9⟩ hfit]
  rw [if_pos rfl]
  exact Iff.rfl
/-- the first row doesn't take it, the second does -/
theorem xCatch2 {own name1 name E : String} {a pc : Nat} {ls : Array Slot} {rest : List Value} (hown : s.vm.findClass own = some m.cls) (x1 x : ExceptionTableEntry) (more : List ExceptionTableEntry) (hsplit : c.exceptionTable.toList = x1 :: x :: more) (hx1 : covers x1 pc = true) (h01 : x1.catchType ≠ 0) (hx : covers x pc = true) (h0 : x.catchType ≠ 0)
    (hlink1 : (Cond.classLink own x1.catchType name1).before args s = true) (hno : va_Nc E name1 s) (hlink : (Cond.classLink own x.catchType name).before args s = true) (hcast : (Cond.castable E name).before args s = true) {ce : Cell} (hcell : H[a]? = some ce) (hv : ce.vm = .none) (hE : s.vm.findClass E = some ce.cls)
    (kk : W p l e R s m args below meth c H locs cells slots Q (F0 m x.handlerPc ls [.ref a])) (hT : T.heap = H) (X : Stand p l e R s m args below meth c T locs cells slots) :
    ∃ t, Steps p.tables e below ((T.setTop (F0 m pc ls rest)).pushFrame (.throwing a)) t ∧ Q t := by
  have hpl : e.platform.magicAccessors = ({} : Platform).magicAccessors := by rw [X.admits.platform]
  obtain ⟨c3, cT, hc3, hcT, hasg⟩ := Cond.castable_spec hcast
  cases hE.symm.trans hc3
  obtain ⟨c4, hc4, hcl⟩ := Cond.classLink_spec hown hlink e.platform hpl
  cases hcT.symm.trans hc4
  obtain ⟨c5, hc5, hcl1⟩ := Cond.classLink_spec hown hlink1 e.platform hpl
  obtain ⟨a8, b8, n1, n2, n3⟩ := hno
  cases n1.symm.trans hE
  cases n2.symm.trans hc5
  obtain ⟨dk1, _, _, kt1, hd1, _, _, _, _, hkt1, _, hopen1⟩ := hcl1.here
  obtain ⟨dk, _, _, kt, hd, _, _, _, _, hkt, _, hopen⟩ := hcl.here
  have hcl₁ := X.warmed.classLinks hcl1
  have hW1 : s.WarmedH (T.vm.noted m.cls x1.catchType (.cls c5)) := X.warmed.noted hd1 hopen1 (State.rightAt_cls hcl1)
  have X1 := X.noted hW1
  have hcl₂ : (T.vm.noted m.cls x1.catchType (.cls c5)).ClassLinks e.platform m.cls x.catchType cT := X1.warmed.classLinks hcl
  have hW2 : s.WarmedH ((T.vm.noted m.cls x1.catchType (.cls c5)).noted m.cls x.catchType (.cls cT)) := X1.warmed.noted hd hopen (State.rightAt_cls hcl)
  obtain ⟨k1, hk1, -⟩ := X.warmed.alike.2.2 _ _ hkt1
  have hal : s.vm.Alike (T.vm.noted m.cls x1.catchType (.cls c5)) := hW1.alike
  obtain ⟨k2, hk2, -⟩ := hal.2.2 _ _ hkt
  have hfit1 : T.vm.assignable ce.cls c5 = false := by rw [X.warmed.alike.assignable]; exact n3
  have hfit2 : (T.vm.noted m.cls x1.catchType (.cls c5)).assignable ce.cls cT = true := by rw [hal.assignable]; exact hasg
  obtain ⟨kc, hkc, -⟩ := Vm.findClass_spec hE
  obtain ⟨kc1, hkc1, -⟩ := X.warmed.alike.2.2 _ _ hkc
  obtain ⟨t, a1, b1⟩ := kk (T.setVm ((T.vm.noted m.cls x1.catchType (.cls c5)).noted m.cls x.catchType (.cls cT))) hT (X.noted hW2)
  refine ⟨t, ?_, b1⟩
  refine xSteps (g := F0 m pc ls rest) X.here ?_ a1
  intro Q9 E9 d9 acts9
  rw [Jvm.W.findHandler_eq (meth := meth) (code := c) X.method' X.code, hsplit]
  rw [xGo (s := (T.setTop (F0 m pc ls rest)).pushFrame (.throwing a)) (f := F0 m pc ls rest) (c := c5) (cell := ce) (b := false) hx1 h01 hcl₁ (by show T.heap[a]? = _; rw [hT]; exact hcell) (VmData.ne_statics_of (by rw [hv]; rfl)) ⟨kc1, hkc1⟩ ⟨k1, hk1⟩ hfit1]
  rw [if_neg (by decide)]
  rw [xGo (f := F0 m pc ls rest) (c := cT) (cell := ce) (b := true) hx h0 hcl₂ (by show T.heap[a]? = _; rw [hT]; exact hcell) (VmData.ne_statics_of (by rw [hv]; rfl)) (Vm.classAt_of_assignable hfit2 ⟨k2, hk2⟩) ⟨k2, hk2⟩ hfit2]
  rw [if_pos rfl]
  exact Iff.rfl
end Caught
