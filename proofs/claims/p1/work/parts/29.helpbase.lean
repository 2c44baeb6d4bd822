/-! The law's helpers: a call that throws, caught. -/
theorem zOpenW {l : Launch} {y : MethodName} {ws ws' : List Cond} {rm : Room} {av : List Value} {D : va_G} {tA : Nat → ClassId} {W0 : va_W} {sz lim : Nat} {post : Int32 → Prop} {cc : ByteArray} {maxL : Nat} {ret : Option FieldType} {hs : List (Nat × Nat × Nat × Nat)} {lv : List (Nat × Value)}
    (hy : plainName y.cls = true) (hw : ws = Cond.codeWith y cc maxL ret hs :: ws') (hlen : (lg_sl av).length ≤ maxL) (hlv : lv_args 0 av = lv)
    (body : ∀ (p : Program) (e : Env) (s : State) (m : MethodId) (below : List Frame) (meth : Method) (c : Code) (A : Nat → Prop) (ls : Array Slot), p.tables.exec = Jvm.exec → c.code = cc → meth.sig.returnType = ret → c.maxLocals = maxL → c.exceptionTable.toList = tableOf hs → zH s → (∀ w ∈ lw_R, w.before av.toArray s = true) → s.vm.findClass y.cls = some m.cls → meth.locks = false → va_K D vwCl (zT tA) s → (∀ q, s.heap.size ≤ q → A q) → va_P D vwCl W0 s.heap → va_D (fun _ => True) W0 → zS2 lim s s.heap → va_S A s.heap s.heap [] → lv_has ls maxL lv →
      W p l e rm s m av.toArray below meth c s.heap [] 0 0 (MQ below (va_Qi (fun r (_ : Unit) => post r) (fun _ _ => True) A) av.toArray s 1 6 A) (F0 m 0 ls [])) :
    Met l y ws rm (va_Pc av (zPreX D tA W0 sz lim)) (va_Qi (fun r (_ : Unit) => post r) (fun _ _ => True) (va_A [] sz)) 1 6 (va_A [] sz) := by
  refine va_MetW (cc := cc) (maxL := maxL) (ret := ret) (hh := hs) hy hw ?_
  intro p e s m args below meth c s₁ B hml hv
  obtain ⟨rfl, ⟨hsz, hP, hK, hD0, hh⟩, h2⟩ := hv
  subst hsz
  have hl := lv_entry av (n := maxL) hlen
  rw [lg_entry_eq]
  generalize (lg_sl av ++ List.replicate (maxL - (lg_sl av).length) Slot.unset).toArray = ls at hl ⊢
  rw [hlv] at hl
  have ht : c.exceptionTable.toList = tableOf hs := by
    obtain ⟨m9, meth9, c9, hn9, h1, h2, -, -, h6, -⟩ := Cond.codeWith_spec (atoms_spec (ws := ws) B.pre _ (by rw [hw]; exact List.mem_cons_self))
    cases Option.some.inj (hn9.symm.trans B.named)
    cases Option.some.inj (h1.symm.trans B.method)
    cases Option.some.inj (h2.symm.trans (Stand.of_body B).code)
    rw [← h6, table_eq]
  exact body p e s m below meth c _ ls B.exec B.bytes B.returns hml ht hh (hh.use _) (findClass_of_methodNamed B.named) B.notSynchronized hK (fun q h => Or.inr h) hP hD0 h2 va_S.rf hl
section Help
variable {p : Program} {l : Launch} {e : Env} {R : Room} {s : State} {m : MethodId} {args : Array Value} {below : List Frame} {meth : Method} {c : Code} {H : Heap} {locs : List Loc} {cells slots : Nat} {Q : State → Prop}
theorem zPreVX {D : va_G} {tA : Nat → ClassId} {A : Nat → Prop} {ws wc : va_W} {b lim : Nat} {As : List Value} (hh : zH s) (hK : va_K D vwCl (zT tA) s) (h2 : zS2 lim s H) (hP : va_P D vwCl ws H) (hD : va_D A ws) (isC : List Nat) (hn : va_nd isC = true) (hC : isC.map (fun i => ws[i]?) = wc.map some) {ci : Nat} {r : vw_C} (hc : vwCl[ci]? = some r) (q0 : Nat) {fs : List Value} (he : wc[q0]? = some (b, .inr (ci, fs))) : PreV s H r.1 b (va_Pc (.ref b :: As) (zPreX D tA wc H.size lim)) As :=
  ⟨zBlindX, va_recv hK (zPc hP isC hC) hc he, fun U hU hW => ⟨rfl, ⟨by rw [hU], by rw [hU]; exact zPc hP isC hC, va_K.moved hW.alike hK, (hD.sub isC hn hC).weaken (fun _ _ _ _ => trivial), zH.moved hW hh⟩, by rw [hU]; exact h2.moved hW.alike⟩⟩
theorem zCallX {y : MethodName} {bytes cc : ByteArray} {maxL nL n index pc lim : Nat} {ret : Option FieldType} {ws : List Cond} {rm : Room} {Ts : List Cond} {own C : String} {b : Addr} {As rest : List Value} {ls : Array Slot} {D : va_G} {tA : Nat → ClassId} {A : Nat → Prop} {wc : va_W} {pE : String → Prop}
    (S : CallFix p m c cc nL s args Ts own) (hM : zMt l y ws rm (.ref b :: As) D tA wc H.size lim pE) (cw : CallW R s args own C index y bytes maxL ret ws rm 1 6 n) (hp : PreV s H C b (va_Pc (.ref b :: As) (zPreX D tA wc H.size lim)) As)
    (hn : As.length = n) (hsize : ls.size = nL) (hWr : 2 * (F0 m pc ls rest).monitorRoom + (rest.map fun v => v.category).sum ≤ 8) (hdg : decode cc pc = .ok (.invokevirtual index, 3)) (hf : cells + 1 ≤ R.cells ∧ slots + 6 ≤ R.slots) (hS : va_S A s.heap H locs)
    (kt : ∀ (E : String) (a : Nat) (ce : Cell) (H1 : Heap) (locs1 : List Loc), pE E → H1[a]? = some ce → ce.vm = .none → s.vm.findClass E = some ce.cls → va_S A s.heap H1 locs1 → ∀ T9 : State, T9.heap = H1 → Stand p l e R s m args below meth c T9 locs1 (cells + 1) (slots + 6) → ∃ tt, Steps p.tables e below ((T9.setTop (F0 m pc ls rest)).pushFrame (.throwing a)) tt ∧ Q tt) :
    W p l e R s m args below meth c H locs cells slots Q (F0 m pc ls (As.reverse ++ .ref b :: rest)) := by
  refine xCallV S hM cw hp hn hsize hWr hdg hf (fun v st₀ t L h0 hwm hL hw hq => ?_) (fun x st₀ t L h0 hwm hL hw hq T9 hT9 X9 => ?_)
  · obtain ⟨E, a, ce, -, ho, -⟩ := hq
    cases ho
  · obtain ⟨E, a, ce, hpE, ho, hce, hv, hcl, hkeep, hsz⟩ := hq
    cases ho
    refine kt E _ ce t.heap (locs ++ L) hpE hce hv (by rw [← hwm.alike.findClass]; exact hcl) ⟨Nat.le_trans hS.1 (by rw [← h0]; exact hsz), fun q h1 h2 => ?_, fun z hz => (List.mem_append.mp hz).elim (hS.2.2 z) (fun h => (hL z h).elim)⟩ T9 hT9 X9
    have hlt : q < H.size := Nat.lt_of_lt_of_le h1 hS.1
    have hc0 : H[q]? = some H[q] := Array.getElem?_eq_getElem hlt
    rw [← hS.2.1 q h1 h2, hc0]
    exact hkeep q _ (by rw [h0]; exact hc0)
end Help
