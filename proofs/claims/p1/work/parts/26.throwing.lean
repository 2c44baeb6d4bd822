/-! A contract of a method that throws (on the state that its start describes). -/
set_option maxRecDepth 100000 in
theorem zA_ISE : ∀ w ∈ Bundle.ownAtoms0 "ChanceArena" 151 "java/lang/IllegalStateException" zRun2, w ∈ zSpec ∨ (w ∈ tables_1 ∧ zRide w = true) := by decide +kernel
set_option maxRecDepth 100000 in
theorem zA_IOB : ∀ w ∈ Bundle.ownAtoms0 "ChanceArena" 169 "java/lang/IndexOutOfBoundsException" zRun2, w ∈ zSpec ∨ (w ∈ tables_1 ∧ zRide w = true) := by decide +kernel
/-- it throws an E of which pE holds; all that was there stays -/
def zQt (pE : String → Prop) : Array Value → State → Outcome → State → Prop := fun _ st oc t => ∃ (E : String) (a : Nat) (ce : Cell), pE E ∧ oc = .threw a ∧ t.heap[a]? = some ce ∧ ce.vm = .none ∧ st.vm.findClass E = some ce.cls ∧ (∀ (q : Nat) (c0 : Cell), st.heap[q]? = some c0 → t.heap[q]? = some c0) ∧ st.heap.size ≤ t.heap.size
def zPreX (D : va_G) (tA : Nat → ClassId) (W0 : va_W) (sz lim : Nat) (U : State) : Prop := zPre D tA W0 sz U ∧ zS2 lim U U.heap
abbrev zMt (l : Launch) (y : MethodName) (ws : List Cond) (rm : Room) (av : List Value) (D : va_G) (tA : Nat → ClassId) (W0 : va_W) (sz lim : Nat) (pE : String → Prop) : Prop :=
  xM l y ws rm (va_Pc av (zPreX D tA W0 sz lim)) (zQt pE) 1 6 (fun _ => False)
theorem zBlindX {av : List Value} {D : va_G} {tA : Nat → ClassId} {W0 : va_W} {sz lim : Nat} : FrameBlind (va_Pc av (zPreX D tA W0 sz lim)) := fun a U g mk q => by
  obtain ⟨q0, q1, q2⟩ := q
  exact ⟨q0, (zBlind a U g mk ⟨q0, q1⟩).2, zS2.moved (u := U) (U := U.calling g mk a) (Vm.Alike.refl U.vm) q2⟩
theorem zOpenX {l : Launch} {y : MethodName} {ws ws' : List Cond} {rm : Room} {av : List Value} {D : va_G} {tA : Nat → ClassId} {W0 : va_W} {sz lim : Nat} {pE : String → Prop} {cc : ByteArray} {maxL : Nat} {ret : Option FieldType} {lv : List (Nat × Value)} (htr : l.stackTraces = false)
    (hy : plainName y.cls = true) (hw : ws = Cond.code y cc maxL ret :: ws') (hlen : (lg_sl av).length ≤ maxL) (hlv : lv_args 0 av = lv)
    (body : ∀ (p : Program) (e : Env) (s : State) (m : MethodId) (below : List Frame) (meth : Method) (c : Code) (ls : Array Slot), p.tables.exec = Jvm.exec → e.platform.stackTraces = false → c.code = cc → c.maxLocals = maxL → (∀ x ∈ c.exceptionTable.toList, False) → zH s → (∀ w ∈ lw_R, w.before av.toArray s = true) → s.vm.findClass y.cls = some m.cls → meth.locks = false → va_K D vwCl (zT tA) s → va_P D vwCl W0 s.heap → va_D (fun _ => True) W0 → zS2 lim s s.heap → va_S (fun q => s.heap.size ≤ q) s.heap s.heap [] → lv_has ls maxL lv →
      W p l e rm s m av.toArray below meth c s.heap [] 0 0 (xQ below (zQt pE) av.toArray s 1 6 (fun _ => False)) (F0 m 0 ls [])) :
    zMt l y ws rm av D tA W0 sz lim pE := by
  refine xOfW (cc := cc) (maxL := maxL) (ret := ret) hy hw ?_
  intro p e s m args below meth c s₁ B hml hv
  obtain ⟨rfl, ⟨hsz, hP, hK, hD0, hh⟩, h2⟩ := hv
  have hl := lv_entry av (n := maxL) hlen
  rw [lg_entry_eq]
  generalize (lg_sl av ++ List.replicate (maxL - (lg_sl av).length) Slot.unset).toArray = ls at hl ⊢
  rw [hlv] at hl
  have ht : ∀ x ∈ c.exceptionTable.toList, False := by
    obtain ⟨meth9, c9, h1, h2, -, -, -, -, h7, -⟩ := Cond.code_spec B.named (atoms_spec (ws := ws) B.pre _ (by rw [hw]; exact List.mem_cons_self))
    cases Option.some.inj (h1.symm.trans B.method)
    cases Option.some.inj (h2.symm.trans (Stand.of_body B).code)
    intro x hx
    rw [Array.isEmpty_iff.mp h7] at hx
    cases hx
  have hpl : e.platform.stackTraces = false := by rw [(Stand.of_body B).admits.platform]; exact htr
  exact body p e s m below meth c ls B.exec hpl B.bytes hml ht hh (hh.use _) (findClass_of_methodNamed B.named) B.notSynchronized hK hP hD0 h2 va_S.rf hl
theorem zThrow {p : Program} {l : Launch} {e : Env} {R : Room} {s : State} {m : MethodId} {args : Array Value} {below : List Frame} {meth : Method} {c : Code} {H : Heap} {locs : List Loc} {pE : String → Prop} {cc : ByteArray} {cls : String} {ic ix pc nL lim : Nat} {ls : Array Slot} (hx : p.tables.exec = Jvm.exec) (htr : e.platform.stackTraces = false) (hb : c.code = cc) (hml : c.maxLocals = nL) (hls : ls.size = nL) (ht : ∀ x ∈ c.exceptionTable.toList, False) (hh : zH s) (hg : ∀ w ∈ lw_R, w.before args s = true) (hown : s.vm.findClass "ChanceArena" = some m.cls) (hlocks : meth.locks = false) (h2 : zS2 lim s s.heap) (hS : va_S (fun q => s.heap.size ≤ q) s.heap H locs)
    (hcls : Bundle.fit cls = true) (hat : ∀ w ∈ Bundle.ownAtoms0 "ChanceArena" ic cls zRun2, w ∈ zSpec ∨ (w ∈ tables_1 ∧ zRide w = true)) (k1 : Cond.classLink "ChanceArena" ix cls ∈ lw_R) (k2 : Cond.initialized cls ∈ lw_R)
    (hd0 : decode cc pc = .ok (.new ix, 3)) (hd3 : decode cc (pc + 3) = .ok (.dup, 1)) (hd4 : decode cc (pc + 4) = .ok (.invokespecial ic, 3)) (hd7 : decode cc (pc + 7) = .ok (.athrow, 1)) (hRc : 1 ≤ R.cells) (hRs : 6 ≤ R.slots) (hRf : 6 ≤ R.frames) (hRl : 88 ≤ R.locals) (hE : pE cls) :
    W p l e R s m args below meth c H locs 0 0 (xQ below (zQt pE) args s 1 6 (fun _ => False)) (F0 m pc ls []) := by
  refine va_forget (fun q hq => hS.2.2 q hq) ?_
  refine xThrow (cells := 0) (slots := 0) (names := zRun2) hx hb htr hml hls hown hlocks hcls (by decide) (fun w hw => (hat w hw).elim (fun h => h2.words w h) (fun h => hh.use _ w (zR (List.mem_append_right _ h.1) h.2))) (hg _ k1) (hg _ k2) (fun x h => absurd (ht x h) id) hS.1 hd0 hd3 hd4 hd7 (by omega) (by omega) (by show 2 + 3 < R.frames; omega) (by show 8 + (13 * (2 + 1) + 41) ≤ R.locals; omega) ?_
  intro t ce h1 h3 h4 h5 h6 h7
  exact ⟨cls, H.size, ce, hE, rfl, h1, h3, h4, h5, h6⟩
