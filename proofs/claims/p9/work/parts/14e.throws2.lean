/-! The eight methods of the class that throw: nothing has changed but that an exception was made (kind 50: nobody looks into it). -/
def mQt (G : mG) (M : mM) (cls : String) : Array Value → State → Outcome → State → Prop := fun _ st oc t => ∃ (a : Nat) (ce : Cell), oc = .threw a ∧ t.heap[a]? = some ce ∧ ce.vm = .none ∧ st.vm.findClass cls = some ce.cls ∧ mRep G (mNew M 50 0 6) t.heap
/-- a call of y throws an exception of the class cls -/
def mCt (G : mG) (y : mY) (d : Nat) (args : List mV) (M : mM) (cls : String) : Prop := xM (gL G) y.1 (zW (yC y)) { frames := d, cells := 1, slots := 6, locals := 64 * d } (va_Pc (args.map mcv) (mPre G M)) (mQt G M cls) 1 6 (mOwn G)
/-- what a throw asks of the launch and of the law's start -/
def TH (G : mG) : Prop := (gL G).stackTraces = false ∧ zS2 (gB G) (gS G) (gS G).heap
section THR
variable {G : mG} {y : mY} {d pc : Nat} {L : List mV} {M : mM} {H H1 : Heap}
theorem mRep.threw (hR : mRep G M H) (hk : ∀ (q : Nat) (c0 : Cell), H[q]? = some c0 → H1[q]? = some c0) (hs : H1.size = H.size + 1) : mRep G (mNew M 50 0 6) H1 := by
  have k : mK (mNew M 50 0 6) (mZ M) = 50 := by rw [mK_New, if_pos rfl]
  refine hR.new hs (fun q hq => ?_) ⟨fun c r t hK hc ht => ?_, fun t ty hK hty => ?_, fun hK => ?_⟩
  · have e : H[q]? = some H[q] := Array.getElem?_eq_getElem hq
    rw [e]
    exact hk q _ e
  · rw [k] at hK
    have : c = 49 := by omega
    subst this
    cases hc
  · rw [k] at hK
    have : t = 20 := by omega
    subst this
    cases hty
  · rw [k] at hK
    cases hK
theorem mCt.of {cls : String} {ic ix : Nat} {args : List mV} (hT : TH G) (hy : y.1.cls = "ChanceArena") (hlen : (mEnt args).length ≤ y.2.2.1) (hL : mEnt args ++ List.replicate (y.2.2.1 - (mEnt args).length) vd = L) (hcls : Bundle.fit cls = true) (hat : ∀ w ∈ Bundle.ownAtoms0 "ChanceArena" ic cls zRun2, w ∈ zSpec ∨ (w ∈ tables_1 ∧ zRide w = true)) (k1 : Cond.classLink "ChanceArena" ix cls ∈ lw_R) (k2 : Cond.initialized cls ∈ lw_R)
    (hd0 : decode y.2.1 pc = .ok (.new ix, 3)) (hd3 : decode y.2.1 (pc + 3) = .ok (.dup, 1)) (hd4 : decode y.2.1 (pc + 4) = .ok (.invokespecial ic, 3)) (hd7 : decode y.2.1 (pc + 7) = .ok (.athrow, 1)) (h6 : 6 ≤ d) (go : mGo G y d L M 0 [] pc []) : mCt G y d args M cls := by
  refine xOfW (cc := y.2.1) (maxL := y.2.2.1) (ret := y.2.2.2) (by rw [hy]; rfl) rfl ?_
  intro p e s m args9 below meth c s₁ B hml hv
  obtain ⟨rfl, hRep, hK, hh, hal⟩ := hv
  have hl := lv_entry (args.map mcv) (n := y.2.2.1) (by rw [mEnt_len]; exact hlen)
  rw [lg_entry_eq]
  generalize (lg_sl (args.map mcv) ++ List.replicate (y.2.2.1 - (lg_sl (args.map mcv)).length) Slot.unset).toArray = ls at hl ⊢
  have hLs : mLs ls y.2.2.1 L := by
    refine ⟨hl.1, hl.2.1, fun i v hi hv => ?_⟩
    rw [← hL] at hi
    by_cases q : i < (mEnt args).length
    · rw [List.getElem?_append_left q] at hi
      have := mEnt_args args 0 i v hi hv
      rw [Nat.zero_add] at this
      exact hl.2.2 _ this
    · rw [List.getElem?_append_right (by omega)] at hi
      have := List.mem_of_getElem? hi
      rw [List.eq_of_mem_replicate this] at hv
      cases hv
  have ht : ∀ x ∈ c.exceptionTable.toList, False := by
    obtain ⟨meth9, c9, h1, h2, -, -, -, -, h7, -⟩ := Cond.code_spec B.named (atoms_spec (ws := zW (yC y)) B.pre _ List.mem_cons_self)
    cases Option.some.inj (h1.symm.trans B.method)
    cases Option.some.inj (h2.symm.trans (Stand.of_body B).code)
    intro x hx
    rw [Array.isEmpty_iff.mp h7] at hx
    cases hx
  have hpl : e.platform.stackTraces = false := by rw [(Stand.of_body B).admits.platform]; exact hT.1
  have h2 : zS2 (gB G) s s.heap := (hT.2.moved hal.1).kept (fun a ha => hRep.2.2.2.2.1 a ha)
  refine go p e (headSpec (zW (yC y)) { frames := d, cells := 1, slots := 6, locals := 64 * d }).room s m (args.map mcv).toArray below meth c s.heap [] 0 0 ls _ ⟨B.exec, B.bytes, hml, B.returns, B.notSynchronized, (name_of_methodNamed B.named B.method).1, findClass_of_methodNamed B.named, hK, hh.use _, hh, hal, Nat.le_refl _, Nat.le_refl _⟩ hRep hLs (Nat.zero_le _) (Nat.zero_le _) ?_
  refine xThrow (cells := 0) (slots := 0) (names := zRun2) B.exec B.bytes hpl hml hLs.1 (own := "ChanceArena") (by rw [← hy]; exact findClass_of_methodNamed B.named) B.notSynchronized hcls (by decide) (fun w hw => (hat w hw).elim (fun h => h2.words w h) (fun h => hh.use _ w (zR (List.mem_append_right _ h.1) h.2))) (hh.use _ _ k1) (hh.use _ _ k2) (fun x h => absurd (ht x h) id) (Nat.le_refl _) hd0 hd3 hd4 hd7 (Nat.le_refl _) (Nat.le_refl _) (by show 2 + 3 < d; omega) (by show 8 + (13 * (2 + 1) + 41) ≤ 64 * d; omega) ?_
  intro t ce q1 q2 q3 q4 q5 q6
  have lt := (Array.getElem?_eq_some_iff.mp q1).1
  exact ⟨s.heap.size, ce, rfl, q1, q2, q3, hRep.threw q4 (by omega)⟩
end THR
