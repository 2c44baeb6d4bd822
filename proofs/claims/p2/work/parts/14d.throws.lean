/-! Methods that may throw: a contract over both ends (xM), the throw itself, a call in a method with handlers. -/
section Throws
variable {p : Program} {l : Launch} {e : Env} {R : Room} {s : State} {m : MethodId} {args : Array Value} {below : List Frame} {meth : Method} {c : Code} {H : Heap} {locs : List Loc} {cells slots : Nat} {Q : State → Prop}
def xM (l : Launch) (y : MethodName) (ws : List Cond) (rm : Room) (Pc : Array Value → State → Prop) (Qc : Array Value → State → Outcome → State → Prop) (mc ms : Nat) (free : Addr → Prop) : Prop :=
  MetFree l y (headSpec ws rm) Pc (fun _ _ _ _ _ => True) (fun a st o t => Qc a st o t ∧ ∃ L, (st.WarmedH t.vm ∧ st.sameButNew ({ t with vm := st.vm } : State) L mc ms) ∧ ∀ q ∈ L, free q.base)
def xQ (below : List Frame) (Qc : Array Value → State → Outcome → State → Prop) (a : Array Value) (s : State) (mc ms : Nat) (free : Addr → Prop) : State → Prop := fun t =>
  ∃ o, t.status = .running ∧ Ended t below o ∧ Qc a s o t ∧ ∃ L, (s.WarmedH t.vm ∧ s.sameButNew ({ t with vm := s.vm } : State) L mc ms) ∧ ∀ q ∈ L, free q.base
theorem xOfW {y : MethodName} {ws ws' : List Cond} {rm : Room} {Pc : Array Value → State → Prop} {Qc : Array Value → State → Outcome → State → Prop} {mc ms : Nat} {free : Addr → Prop} {cc : ByteArray} {maxL : Nat} {ret : Option FieldType}
    (hy : plainName y.cls = true) (hw : ws = Cond.code y cc maxL ret :: ws')
    (body : ∀ p e s m args below meth c s₁, BodyLoose p l y (headSpec ws rm) cc maxL ret e s m args below meth c s₁ → c.maxLocals = maxL → Pc args s →
      W p l e (headSpec ws rm).room s m args below meth c s.heap [] 0 0 (xQ below Qc args s mc ms free) (entryFrame m args maxL)) : xM l y ws rm Pc Qc mc ms free := by
  refine MetFree.of_bodyS (code := cc) (maxLocals := maxL) (ret := ret) hy ?_ ?_
  · intro args s m h hn
    obtain ⟨meth, c, h1, h2, h3, h4, h5, h6, -, -⟩ := Cond.code_spec hn (atoms_spec (ws := ws) h _ (by rw [hw]; exact List.mem_cons_self))
    exact ⟨meth, c, h1, h2, h3, h4, h5, h6⟩
  · intro p e s m args below meth c s₁ B hml hP _
    have hh0 : s₁.heap = s.heap := by rw [B.state]; rfl
    obtain ⟨t, a1, o, b1, b2, b3⟩ := body p e s m args below meth c s₁ B hml hP s₁ hh0 (Stand.of_body B)
    exact ⟨t, o, a1, b1, b2, ⟨b3.1, b3.2⟩⟩
/-- new, dup, <init>, athrow: the method throws; nothing was written before -/
theorem xThrow {cc : ByteArray} {Qc : Array Value → State → Outcome → State → Prop} {free : Addr → Prop} {own cls : String} {names : List String} {ic ix pc nL : Nat} {ls : Array Slot} (hexec : p.tables.exec = Jvm.exec) (hb : c.code = cc) (htr : e.platform.stackTraces = false) (hml : c.maxLocals = nL) (hls : ls.size = nL)
    (hown : s.vm.findClass own = some m.cls) (hlocks : meth.locks = false) (hcls : Bundle.fit cls = true) (hnames : ∀ n ∈ names, Bundle.fit n = true) (h : ∀ a ∈ Bundle.ownAtoms0 own ic cls names, a.before args s = true)
    (hclink : (Cond.classLink own ix cls).before args s = true) (hini : (Cond.initialized cls).before args s = true) (hout : ∀ x ∈ c.exceptionTable.toList, covers x (pc + 7) = false) (hsz : s.heap.size ≤ H.size)
    (hd0 : decode cc pc = .ok (.new ix, 3)) (hd3 : decode cc (pc + 3) = .ok (.dup, 1)) (hd4 : decode cc (pc + 4) = .ok (.invokespecial ic, 3)) (hd7 : decode cc (pc + 7) = .ok (.athrow, 1))
    (hcells : cells + 1 ≤ R.cells) (hslots : slots + 6 ≤ R.slots) (hRf : names.length + 3 < R.frames) (hRl : 8 + (13 * (names.length + 1) + 41) ≤ R.locals)
    (hq : ∀ (t : State) (ce : Cell), t.heap[H.size]? = some ce → ce.vm = .none → s.vm.findClass cls = some ce.cls → (∀ (q : Nat) (c0 : Cell), s.heap[q]? = some c0 → t.heap[q]? = some c0) → t.heap.size ≤ s.heap.size + (cells + 1) → s.WarmedH t.vm → Qc args s (.threw H.size) t) :
    W p l e R s m args below meth c H [] cells slots (xQ below Qc args s (cells + 1) (slots + 6) free) (F0 m pc ls []) := by
  refine W.newc hexec hb hown hclink (h (.instantiable cls 6) (by simp [Bundle.ownAtoms0])) hini rfl hd0 hcells hslots (fun cC kC h1 h2 h3 h4 => ?_)
  refine lv_dup hexec hb hd3 rfl ?_
  intro T hT X
  obtain ⟨U, st, hrun, hend, hW, hsame, ce, hce, hoc⟩ := X.ctorThrow0 hexec htr hown hcls hnames h (by simp) (a := H.size) h1 h2 (by rw [hT]; simp) hsz (g := F0 m (pc + 3 + 1) ls [.ref H.size, .ref H.size]) rfl (by rw [hml]; exact hls) rfl rfl (rest := []) rfl (by rw [hb]; exact hd4) (by rw [hb]; exact hd7) hout hRf (by
    have h9 : 2 * (F0 m (pc + 3 + 1) ls [Value.ref H.size, Value.ref H.size]).monitorRoom + (([Value.ref H.size] : List Value).map fun v => v.category).sum ≤ 8 := lv_room (Nat.le_of_ble_eq_true rfl)
    omega) hlocks
  exact ⟨U, st, .threw H.size, hrun, hend, hq U ce hce hoc.vm hoc.cls (fun q c0 hq => hsame.old_cell hq) hsame.2.2.1 hW, [], ⟨hW, hsame⟩, by simp⟩
end Throws
section Catches
variable {p : Program} {l : Launch} {e : Env} {R : Room} {s : State} {m : MethodId} {args : Array Value} {below : List Frame} {meth : Method} {c : Code} {H : Heap} {locs : List Loc} {cells slots : Nat} {Q : State → Prop}
/-- a call that comes back or throws -/
theorem xCallV {y : MethodName} {bytes cc : ByteArray} {maxL nL mc ms n index pc : Nat} {ret : Option FieldType} {ws : List Cond} {rm : Room} {Pc : Array Value → State → Prop} {Qc : Array Value → State → Outcome → State → Prop} {free : Addr → Prop} {Ts : List Cond} {own C : String} {b : Addr} {As rest : List Value} {ls : Array Slot}
    (S : CallFix p m c cc nL s args Ts own) (hM : xM l y ws rm Pc Qc mc ms free) (cw : CallW R s args own C index y bytes maxL ret ws rm mc ms n) (hp : PreV s H C b Pc As)
    (hn : As.length = n) (hsize : ls.size = nL) (hWr : 2 * (F0 m pc ls rest).monitorRoom + (rest.map fun v => v.category).sum ≤ 8) (hdg : decode cc pc = .ok (.invokevirtual index, 3)) (hf : cells + mc ≤ R.cells ∧ slots + ms ≤ R.slots)
    (kr : ∀ (v : Option Value) (st₀ t : State) (L : List Loc), st₀.heap = H → s.WarmedH st₀.vm → (∀ q ∈ L, free q.base) → s.WarmedH t.vm → Qc (Value.ref b :: As).toArray st₀ (.returned v) t → W p l e R s m args below meth c t.heap (locs ++ L) (cells + mc) (slots + ms) Q (F0 m (pc + 3) ls (v.toList ++ rest)))
    (kt : ∀ (x : Addr) (st₀ t : State) (L : List Loc), st₀.heap = H → s.WarmedH st₀.vm → (∀ q ∈ L, free q.base) → s.WarmedH t.vm → Qc (Value.ref b :: As).toArray st₀ (.threw x) t → ∀ T' : State, T'.heap = t.heap → Stand p l e R s m args below meth c T' (locs ++ L) (cells + mc) (slots + ms) → ∃ tt, Steps p.tables e below ((T'.setTop (F0 m pc ls rest)).pushFrame (.throwing x)) tt ∧ Q tt) :
    W p l e R s m args below meth c H locs cells slots Q (F0 m pc ls (As.reverse ++ .ref b :: rest)) := by
  obtain ⟨hexec, hb, hml, hown, hts⟩ := S
  obtain ⟨⟨hrc, hrs, hfr, hlo, hws, hcw, hcode, hini, hy, hlen, hlink⟩, hinst, hsel⟩ := cw
  obtain ⟨hbl, ⟨cellB, hcell, hobj, hcls⟩, hPc⟩ := hp
  intro T hT X
  obtain ⟨mk, methM, hnamed, hmethM, hstM, habM⟩ := Cond.instanceMethod_spec hinst
  obtain ⟨methM', cM, hmethM', -, -, -, -, -, -, hsigM⟩ := Cond.code_spec hnamed hcode
  cases hmethM.symm.trans hmethM'
  obtain ⟨c2, r2, m2, q1, q2, q3, q4, kP, hkP, hkPi⟩ := Cond.selects_spec hsel
  cases hcls.symm.trans q1
  cases (State.methodFound?_of_named hnamed hy).symm.trans q2
  cases hnamed.symm.trans q3
  have hselP : selectMethod e.platform s.vm cellB.cls mk = .method mk := by rw [Launch.admits_selectMethod X.admits]; exact q4
  obtain ⟨vm₁, X₁, hstep₁⟩ := X.invokevirtual hexec hown hlink hnamed hmethM hstM hkP hkPi hy (a := b) (cell := cellB) (by rw [hT]; exact hcell)
    (fun z h => by rw [h] at hobj; cases hobj) hselP hmethM habM hkP hkPi (g := F0 m pc ls (As.reverse ++ .ref b :: rest)) rfl (argsL := As) (rest := rest) (by rw [hn]; exact hlen _ hsigM) rfl (by rw [hb]; exact hdg)
  have hUh : (T.setVm vm₁).heap = H := hT
  generalize T.setVm vm₁ = U at X₁ hstep₁ hUh
  have hnU := X₁.named hnamed
  have hcU : (Cond.code y bytes maxL ret).before (Value.ref b :: As).toArray U = true := hws _ hcw _ _ X₁.warmed
  have hiU : (Cond.initialized y.cls).before (Value.ref b :: As).toArray U = true := word_at X₁.warmed (Or.inl (by first | rfl | simp [Cond.onTables, Cond.keeps, Cond.steady])) hini
  obtain ⟨methY, cY, hmY, hcY, -, hlY, -, -, -, -⟩ := Cond.code_spec hnU hcU
  obtain ⟨kY, hkY, -⟩ := className_of_methodNamed hnU
  have hinitY : kY.init = .initialized := Cond.initialized_spec (findClass_of_methodNamed hnU) hkY hiU
  have hAt : At U (F0 m pc ls rest).method c below := X₁.here
  have hdg' : decode c.code (F0 m pc ls rest).pc = .ok (.invokevirtual index, 3) := by rw [hb]; exact hdg
  have happ : (headSpec ws rm).appliesLoose y e.platform (U.calling (F0 m pc ls rest) mk (Value.ref b :: As).toArray) = true :=
    Spec.appliesLoose_calling (g := F0 m pc ls rest) hAt hdg' hnU hkY hinitY
      (X₁.room_calling (g := F0 m pc ls rest) (R' := rm) (by rw [hml]; exact hsize) hmY hcY hfr (by rw [hlY]; have h9 : 2 * (F0 m pc ls rest).monitorRoom + ((F0 m pc ls rest).stack.map fun v => v.category).sum ≤ 8 := hWr; omega) (by rw [hrc]; exact hf.1) (by rw [hrs]; exact hf.2)) (atoms_intro fun w hw => hws w hw _ _ X₁.warmed)
  obtain ⟨mid, hmid⟩ := hAt.above
  have hfr9 : (U.setTop (F0 m pc ls rest)).frames = (.java (F0 m pc ls rest) :: mid) ++ below := by rw [State.frames_setTop' _ hAt.top, hmid]; rfl
  obtain ⟨o, s₂, hsteps, -, hend, hq⟩ := Steps.callFree hM p X₁.admits X₁.cas X₁.clock (acts := []) hfr9 happ (hbl _ _ _ _ (hPc U hUh X₁.warmed)) trivial
  rw [State.frames_setTop' _ hAt.top, X₁.tail] at hend
  obtain ⟨hqc, L, ⟨hW2, hsame⟩, hL⟩ := hq
  have hw2 : s.WarmedH s₂.vm := State.WarmedH.trans X₁.warmed hW2
  have hst0 : (U.calling (F0 m pc ls rest) mk (Value.ref b :: As).toArray).heap = H := hUh
  have run : ∀ tg, Steps p.tables e below s₂ tg → Steps p.tables e below (T.setTop (F0 m pc ls (As.reverse ++ .ref b :: rest))) tg := fun tg h => hstep₁ _ fun acts => by rw [doInvoke_state]; exact hsteps.trans h
  cases o with
  | returned v =>
    obtain ⟨T', X', hw', -, he⟩ := X₁.outOf (g := F0 m pc ls rest) rfl hdg' hend hW2 hsame
    have hTt : T'.heap = s₂.heap := by rw [he]; rfl
    obtain ⟨t, a1, b1⟩ := kr v _ s₂ L hst0 X₁.warmed hL hw2 hqc T' hTt X'
    exact ⟨t, run _ (by rw [he]; exact a1), b1⟩
  | threw x =>
    obtain ⟨T', X', hw', -, he⟩ := X₁.outOfThrown (g := F0 m pc ls rest) rfl hend hW2 hsame
    have hTt : T'.heap = s₂.heap := by rw [he]; rfl
    obtain ⟨t, a1, b1⟩ := kt x _ s₂ L hst0 X₁.warmed hL hw2 hqc T' hTt X'
    exact ⟨t, run _ (by rw [he]; exact a1), b1⟩
end Catches
/-! What a throw asks of two statics of Throwable: they lie in a cell that nobody here writes. -/
/-- the static C.n : d holds null or a reference, in a cell below lim -/
def zS (C n d : String) (lim : Nat) (U : State) (H : Heap) : Prop := ∃ (c : ClassId) (k : Class) (i : Nat) (f : Field) (a : Nat) (cell : Cell) (v : Value), U.vm.findClass C = some c ∧ U.fieldFound? C n d = some (c, k, i, f) ∧ f.isStatic = true ∧ k.statics = some a ∧ H[a]? = some cell ∧ cell.vm.isStatics = true ∧ cell.cls = c ∧ f.slot < cell.slots.size ∧ k.staticTypes[f.slot]? = some f.type ∧ cell.slots[f.slot]? = some v ∧ v.isRef = true ∧ a < lim
theorem zS.moved {C n d : String} {lim : Nat} {u U : State} {H : Heap} (hvm : u.vm.Alike U.vm) (h : zS C n d lim u H) : zS C n d lim U H := by
  obtain ⟨c, k, i, f, a, cell, v, h1, h2, h3, h4, h5, h6, h7, h8, h9, h10⟩ := h
  obtain ⟨k9, hi9, he⟩ := State.fieldFound?_setVm hvm h2
  exact ⟨c, k9, i, f, a, cell, v, by rw [hvm.findClass]; exact h1, hi9, h3, by rw [he]; exact h4, h5, h6, h7, h8, by rw [he]; exact h9, h10⟩
theorem zS.kept {C n d : String} {lim : Nat} {U : State} {H H1 : Heap} (h : zS C n d lim U H) (hq : ∀ a : Nat, a < lim → H1[a]? = H[a]?) : zS C n d lim U H1 := by
  obtain ⟨c, k, i, f, a, cell, v, h1, h2, h3, h4, h5, h6, h7, h8, h9, h10, h11, h12⟩ := h
  exact ⟨c, k, i, f, a, cell, v, h1, h2, h3, h4, by rw [hq a h12]; exact h5, h6, h7, h8, h9, h10, h11, h12⟩
theorem zS.lays {C n d : String} {lim : Nat} {s : State} {args : Array Value} (h : zS C n d lim s s.heap) : (Cond.laysStatic C n d).before args s = true := by
  obtain ⟨c, k, i, f, a, cell, v, h1, h2, h3, h4, h5, h6, h7, h8, h9, -⟩ := h
  show (Cond.laysStatic C n d).holds args s none s [] = true
  exact Cond.laysStatic_of h1 h2 h3 h4 h5 h6 h7 h8 h9
theorem zS.isRef {C n d : String} {lim : Nat} {s : State} {args : Array Value} (h : zS C n d lim s s.heap) : (Cond.isRef (.static C n d)).before args s = true := by
  obtain ⟨c, k, i, f, a, cell, v, h1, h2, h3, h4, h5, h6, h7, h8, h9, h10, h11, -⟩ := h
  have he : (Term.static C n d).eval args s none [] s = some v := by
    simp [Term.eval, State.fieldNamed?, h2, h3, h4, h5, h6, h10]
  simp only [Cond.before, Cond.holds, Cond.value, he]
  cases v <;> simp_all [Value.isRef]
theorem zS.of {C n d : String} {s : State} {args : Array Value} (hl : (Cond.laysStatic C n d).before args s = true) (h : (Cond.isRef (.static C n d)).before args s = true) : zS C n d s.heap.size s s.heap := by
  obtain ⟨c, k, i, f, a, cell, h1, h2, h3, h4, h5, h6, h7, h8, h9⟩ := Cond.laysStatic_spec hl
  cases hv : (Term.static C n d).eval args s none [] s with
  | none => simp [Cond.before, Cond.holds, Cond.value, hv] at h
  | some v =>
    obtain ⟨hst9, a9, cell9, ha9, hcell9, -, hslot⟩ := Term.static_spec h2 hv
    cases h4.symm.trans ha9
    cases h5.symm.trans hcell9
    refine ⟨c, k, i, f, a, cell, v, h1, h2, h3, h4, h5, h6, h7, h8, h9, hslot, ?_, (Array.getElem?_eq_some_iff.mp h5).1⟩
    simp only [Cond.before, Cond.holds, Cond.value, hv] at h
    cases v <;> simp_all [Value.isRef]
/-- both statics -/
def zS2 (lim : Nat) (U : State) (H : Heap) : Prop := zS Bundle.tN "UNASSIGNED_STACK" Bundle.steD lim U H ∧ zS Bundle.tN "SUPPRESSED_SENTINEL" Bundle.listD lim U H
theorem zS2.moved {lim : Nat} {u U : State} {H : Heap} (hvm : u.vm.Alike U.vm) (h : zS2 lim u H) : zS2 lim U H := ⟨h.1.moved hvm, h.2.moved hvm⟩
theorem zS2.kept {lim : Nat} {U : State} {H H1 : Heap} (h : zS2 lim U H) (hq : ∀ a : Nat, a < lim → H1[a]? = H[a]?) : zS2 lim U H1 := ⟨h.1.kept hq, h.2.kept hq⟩
def zSpec : List Cond := [.isRef (.static Bundle.tN "UNASSIGNED_STACK" Bundle.steD), .isRef (.static Bundle.tN "SUPPRESSED_SENTINEL" Bundle.listD), .laysStatic Bundle.tN "UNASSIGNED_STACK" Bundle.steD, .laysStatic Bundle.tN "SUPPRESSED_SENTINEL" Bundle.listD]
theorem zS2.words {lim : Nat} {s : State} {args : Array Value} (h : zS2 lim s s.heap) : ∀ w ∈ zSpec, w.before args s = true := by
  intro w hw
  simp only [zSpec, List.mem_cons, List.not_mem_nil, or_false] at hw
  rcases hw with rfl | rfl | rfl | rfl
  · exact h.1.isRef
  · exact h.2.isRef
  · exact h.1.lays
  · exact h.2.lays
abbrev zRun2 : List String := ["java/lang/RuntimeException", "java/lang/Exception"]
theorem zA_spl {L : List Cond} {w : Cond} (h : w ∈ L) : w ∈ L.take 24 ++ (L.drop 29).take 10 ∨ w ∈ (L.drop 24).take 5 ++ L.drop 39 := by
  rw [← List.take_append_drop 24 L] at h
  rcases List.mem_append.mp h with h | h
  · exact Or.inl (List.mem_append_left _ h)
  rw [← List.take_append_drop 5 (L.drop 24)] at h
  rcases List.mem_append.mp h with h | h
  · exact Or.inr (List.mem_append_left _ h)
  have h2 : w ∈ L.drop 29 := by rw [List.drop_drop] at h; exact h
  rw [← List.take_append_drop 10 (L.drop 29)] at h2
  rcases List.mem_append.mp h2 with h2 | h2
  · exact Or.inl (List.mem_append_right _ h2)
  · exact Or.inr (List.mem_append_right _ (by rw [List.drop_drop] at h2; exact h2))
def zL_A : List Cond := Bundle.ownAtoms0 "ChanceArena" 119 "java/lang/IllegalArgumentException" zRun2
def zL_S : List Cond := Bundle.ownAtoms0 "ChanceArena" 151 "java/lang/IllegalStateException" zRun2
def zL_I : List Cond := Bundle.ownAtoms0 "ChanceArena" 169 "java/lang/IndexOutOfBoundsException" zRun2
set_option maxRecDepth 100000 in
theorem zA_com : ∀ w ∈ zL_A.take 24 ++ (zL_A.drop 29).take 10, w ∈ zSpec ∨ (w ∈ tables_1 ∧ zRide w = true) := by decide +kernel
set_option maxRecDepth 100000 in
theorem zA_xA : ∀ w ∈ (zL_A.drop 24).take 5 ++ zL_A.drop 39, w ∈ zSpec ∨ (w ∈ tables_1 ∧ zRide w = true) := by decide +kernel
theorem zA_IAE : ∀ w ∈ Bundle.ownAtoms0 "ChanceArena" 119 "java/lang/IllegalArgumentException" zRun2, w ∈ zSpec ∨ (w ∈ tables_1 ∧ zRide w = true) := fun w hw => (zA_spl (L := zL_A) hw).elim (fun h => zA_com w h) (zA_xA w)
set_option maxRecDepth 100000 in
theorem zA_xS : ∀ w ∈ (zL_S.drop 24).take 5 ++ zL_S.drop 39, w ∈ zSpec ∨ (w ∈ tables_1 ∧ zRide w = true) := by decide +kernel
set_option maxRecDepth 100000 in
theorem zA_eS : zL_S.take 24 ++ (zL_S.drop 29).take 10 = zL_A.take 24 ++ (zL_A.drop 29).take 10 := by decide +kernel
theorem zA_ISE : ∀ w ∈ Bundle.ownAtoms0 "ChanceArena" 151 "java/lang/IllegalStateException" zRun2, w ∈ zSpec ∨ (w ∈ tables_1 ∧ zRide w = true) := fun w hw => (zA_spl (L := zL_S) hw).elim (fun h => zA_com w (by rw [zA_eS] at h; exact h)) (zA_xS w)
set_option maxRecDepth 100000 in
theorem zA_xI : ∀ w ∈ (zL_I.drop 24).take 5 ++ zL_I.drop 39, w ∈ zSpec ∨ (w ∈ tables_1 ∧ zRide w = true) := by decide +kernel
set_option maxRecDepth 100000 in
theorem zA_eI : zL_I.take 24 ++ (zL_I.drop 29).take 10 = zL_A.take 24 ++ (zL_A.drop 29).take 10 := by decide +kernel
theorem zA_IOB : ∀ w ∈ Bundle.ownAtoms0 "ChanceArena" 169 "java/lang/IndexOutOfBoundsException" zRun2, w ∈ zSpec ∨ (w ∈ tables_1 ∧ zRide w = true) := fun w hw => (zA_spl (L := zL_I) hw).elim (fun h => zA_com w (by rw [zA_eI] at h; exact h)) (zA_xI w)
