/-! What a throw asks of two statics of Throwable: they lie in a cell that nobody here writes. -/
/-- the static C.n : d holds null or a reference, in a cell below lim -/
def zS (C n d : String) (lim : Nat) (U : State) (H : Heap) : Prop := ∃ (c : ClassId) (k : Class) (i : Nat) (f : Field) (a : Nat) (cell : Cell) (v : Value), U.vm.findClass C = some c ∧ U.fieldFound? C n d = some (c, k, i, f) ∧ f.isStatic = true ∧ k.statics = some a ∧ H[a]? = some cell ∧ cell.vm.isStatics = true ∧ cell.cls = c ∧ f.slot < cell.slots.size ∧ k.staticTypes[f.slot]? = some f.type ∧ cell.slots[f.slot]? = some v ∧ v.isRef = true ∧ a < lim
theorem zS.moved {C n d : String} {lim : Nat} {u U : State} {H : Heap} (hvm : u.vm.Alike U.vm) (h : zS C n d lim u H) : zS C n d lim U H := by
  obtain ⟨c, k, i, f, a, cell, v, h1, h2, h3, h4, h5, h6, h7, h8, h9, h10⟩ := h
  obtain ⟨k9, hi9, he⟩ := State.fieldFound?_setVm hvm h2
  exact ⟨c, k9, i, f, a, cell, v, by rw [hvm.findClass]; exact h1, hi9, h3, by rw [he]; exact h4, h5, h6, h7, h8, by rw [he]; exact h9, h10⟩
theorem zS.kept {C n d : String} {lim : Nat} {U : State} {H H1 : Heap} (h : zS C n d lim U H) (hq : ∀ a : Nat, a < lim → H1[a]? = H[a]?) : zS C n d lim U H1 := by
  obtain ⟨c, k, i, f, a, cell, v, h1, h2, h3, h4, h5, h6, h7, h8, h9, h10, h11, h12⟩ := h
  exact ⟨c, k, i, f, a, cell, v, h1, h2, h3, h4, by rw [hq a h12]; exact h5, h6, h7, h8, h9, h10, h11, h12⟩
theorem zS.lays {C n d : String} {lim : Nat} {s : State} {args : Array Value} (h : zS C n d lim s s.heap) : (Cond.laysStatic C n d).before args s = true := by
  obtain ⟨c, k, i, f, a, cell, v, h1, h2, h3, h4, h5, h6, h7, h8, h9, -⟩ := h
  show (Cond.laysStatic C n d).holds args s none s [] = true
  exact Cond.laysStatic_of h1 h2 h3 h4 h5 h6 h7 h8 h9
theorem zS.isRef {C n d : String} {lim : Nat} {s : State} {args : Array Value} (h : zS C n d lim s s.heap) : (Cond.isRef (.static C n d)).before args s = true := by
  obtain ⟨c, k, i, f, a, cell, v, h1, h2, h3, h4, h5, h6, h7, h8, h9, h10, h11, -⟩ := h
  have he : (Term.static C n d).eval args s none [] s = some v := by
    simp [Term.eval, State.fieldNamed?, h2, h3, h4, h5, h6, h10]
  simp only [Cond.before, Cond.holds, Cond.value, he]
  cases v <;> simp_all [Value.isRef]
theorem zS.of {C n d : String} {s : State} {args : Array Value} (hl : (Cond.laysStatic C n d).before args s = true) (h : (Cond.isRef (.static C n d)).before args s = true) : zS C n d s.heap.size s s.heap := by
  obtain ⟨c, k, i, f, a, cell, h1, h2, h3, h4, h5, h6, h7, h8, h9⟩ := Cond.laysStatic_spec hl
  cases hv : (Term.static C n d).eval args s none [] s with
  | none => simp [Cond.before, Cond.holds, Cond.value, hv] at h
  | some v =>
    obtain ⟨hst9, a9, cell9, ha9, hcell9, -, hslot⟩ := Term.static_spec h2 hv
    cases h4.symm.trans ha9
    cases h5.symm.trans hcell9
    refine ⟨c, k, i, f, a, cell, v, h1, h2, h3, h4, h5, h6, h7, h8, h9, hslot, ?_, (Array.getElem?_eq_some_iff.mp h5).1⟩
    simp only [Cond.before, Cond.holds, Cond.value, hv] at h
    cases v <;> simp_all [Value.isRef]
/-- both statics -/
def zS2 (lim : Nat) (U : State) (H : Heap) : Prop := zS Bundle.tN "UNASSIGNED_STACK" Bundle.steD lim U H ∧ zS Bundle.tN "SUPPRESSED_SENTINEL" Bundle.listD lim U H
theorem zS2.moved {lim : Nat} {u U : State} {H : Heap} (hvm : u.vm.Alike U.vm) (h : zS2 lim u H) : zS2 lim U H := ⟨h.1.moved hvm, h.2.moved hvm⟩
theorem zS2.kept {lim : Nat} {U : State} {H H1 : Heap} (h : zS2 lim U H) (hq : ∀ a : Nat, a < lim → H1[a]? = H[a]?) : zS2 lim U H1 := ⟨h.1.kept hq, h.2.kept hq⟩
def zSpec : List Cond := [.isRef (.static Bundle.tN "UNASSIGNED_STACK" Bundle.steD), .isRef (.static Bundle.tN "SUPPRESSED_SENTINEL" Bundle.listD), .laysStatic Bundle.tN "UNASSIGNED_STACK" Bundle.steD, .laysStatic Bundle.tN "SUPPRESSED_SENTINEL" Bundle.listD]
theorem zS2.words {lim : Nat} {s : State} {args : Array Value} (h : zS2 lim s s.heap) : ∀ w ∈ zSpec, w.before args s = true := by
  intro w hw
  simp only [zSpec, List.mem_cons, List.not_mem_nil, or_false] at hw
  rcases hw with rfl | rfl | rfl | rfl
  · exact h.1.isRef
  · exact h.2.isRef
  · exact h.1.lays
  · exact h.2.lays
abbrev zRun2 : List String := ["java/lang/RuntimeException", "java/lang/Exception"]
set_option maxRecDepth 100000 in
theorem zA_IAE : ∀ w ∈ Bundle.ownAtoms0 "ChanceArena" 119 "java/lang/IllegalArgumentException" zRun2, w ∈ zSpec ∨ (w ∈ tables_1 ∧ zRide w = true) := by decide +kernel
