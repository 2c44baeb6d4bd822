/-! A static call of a method with handlers (the law's helpers). -/
theorem zRunSW {p : Program} {l : Launch} {e : Env} {R : Room} {s : State} {m : MethodId} {args : Array Value} {below : List Frame} {meth : Method} {c : Code} {H : Heap} {locs : List Loc} {cells slots : Nat} {y : MethodName} {bytes cc : ByteArray} {maxL nL mc ms n index : Nat} {ret : Option FieldType} {hs : List (Nat × Nat × Nat × Nat)} {rm : Room} {Pc : Array Value → State → Prop} {Qc : Array Value → State → Outcome → State → Prop} {free : Addr → Prop} {own : String} {As rest : List Value} {g : JFrame}
    (S : CallFix p m c cc nL s args lw_R own) (hM : Met l y (zW (Cond.codeWith y bytes maxL ret hs)) rm Pc Qc mc ms free) (h1 : Cond.methodLink own index y ∈ lw_R) (h2 : Cond.static y ∈ lw_R) (h4 : Cond.initialized y.cls ∈ lw_R) (h5 : Cond.codeWith y bytes maxL ret hs ∈ lw_R) (hrc : rm.cells = mc) (hrs : rm.slots = ms)
    (hd : y.cls ≠ "java/lang/invoke/MethodHandle" ∧ y.cls ≠ "java/lang/invoke/VarHandle" ∧ (parseMethodDescriptor y.desc).map (fun d => d.parameters.length) = some n) (hR : rm.frames + 1 ≤ R.frames ∧ 8 + (maxL + 11) + rm.locals ≤ R.locals) (hp : PreS s H Pc As)
    (hg : g.method = m) (hn : As.length = n) (hsize : g.locals.size = nL) (hstack : g.stack = As.reverse ++ rest) (hW : 2 * g.monitorRoom + (rest.map fun v => v.category).sum ≤ 8) (hdg : decode cc g.pc = .ok (.invokestatic index, 3)) (hf : cells + mc ≤ R.cells ∧ slots + ms ≤ R.slots) :
    va_Run p l e R s m args below meth c H locs cells slots mc ms g rest (Qc As.toArray) free := by
  obtain ⟨hx, hb, hml, ho, hts⟩ := S
  have hG : GoodIn lw_R (zW (Cond.codeWith y bytes maxL ret hs)) := zGood h5 rfl
  have hK : Back l R p e below s args y 3 8 (PreOf R mc ms Pc) (PostOf Qc mc ms free) := va_backW (hh := hs) (bytes := bytes) (maxL := maxL) (ret := ret) hM hp.1 hrc hrs hR.1 hR.2 (pay_in hts hG) List.mem_cons_self (fun a9 U hW9 => word_at hW9 (Or.inl (by first | rfl | simp [Cond.onTables, Cond.keeps, Cond.steady])) (hts _ h4))
  intro T hT X
  obtain ⟨mk, methM, cM, hnamed, hmethM, -, -, -, -, -, -, hsigM⟩ := Cond.codeWith_spec (hts _ h5)
  have hstatic := Cond.static_spec hnamed hmethM (hts _ h2)
  obtain ⟨kP, hkP, -⟩ := className_of_methodNamed hnamed
  have hinitP := Cond.initialized_spec (findClass_of_methodNamed hnamed) hkP (hts _ h4)
  have hlen : As.length = methM.sig.parameters.length := by
    have h9 := hd.2.2
    rw [hsigM] at h9
    rw [hn]
    exact (Option.some.inj h9).symm
  obtain ⟨vm₁, X₁, hstep₁⟩ := X.invokestatic hx ho (hts _ h1) hnamed hmethM hstatic hkP hinitP ⟨hd.1, hd.2.1⟩ (g := g) hg (argsL := As) (rest := rest) hlen hstack (by rw [hb]; exact hdg)
  obtain ⟨v, ⟨U9, l2, c2, s2⟩, X9, ⟨g9, mk9, t, L, e1, e2, hq, q1, hL, q2, q3⟩, hsteps⟩ := hK m meth c ⟨T.setVm vm₁, locs, cells, slots⟩ { g with stack := rest } (.invokestatic index) mk As.toArray X₁ hg (hsize.trans hml.symm) (by rw [hb]; exact hdg) hW (X₁.named hnamed) ⟨hf.1, hf.2, hp.2 (T.setVm vm₁) hT X₁.warmed⟩
  dsimp only [Pt.U, Pt.locs, Pt.cells, Pt.slots] at X9 e1 e2 q1 q2 q3 hsteps
  subst q1; subst q2; subst q3
  exact ⟨v, (T.setVm vm₁).calling g9 mk9 As.toArray, t, U9, L, hT, X9, hL, e1, e2, hq, fun tg h => hstep₁ _ fun acts => by rw [doInvoke_state]; exact hsteps.trans h⟩
/-! The law's helpers: methods with handlers. -/
abbrev yW (y : mY) (hs : List (Nat × Nat × Nat × Nat)) : Cond := Cond.codeWith y.1 y.2.1 y.2.2.1 y.2.2.2 hs
def mClW (G : mG) (y : mY) (hs : List (Nat × Nat × Nat × Nat)) (d : Nat) (args : List mV) (M : mM) (r : Option mV) (M' : mM) : Prop :=
  (mZ M ≤ mZ M' ∧ mS M ≤ mS M') ∧ Met (gL G) y.1 (zW (yW y hs)) { frames := d, cells := mZ M' - mZ M, slots := mS M' - mS M, locals := 64 * d } (va_Pc (args.map mcv) (mPre G M)) (mQ G r M') (mZ M' - mZ M) (mS M' - mS M) (mOwn G)
/-- a call of a method with handlers answers an int -/
def CiW (G : mG) (y : mY) (hs : List (Nat × Nat × Nat × Nat)) (d : Nat) (args : List mV) (M : mM) (Q : Int → mM → Prop) : Prop := ∃ r M', mClW G y hs d args M r M' ∧ ∃ x, r = some (vi x) ∧ Q x M'
section HEL
variable {G : mG} {y y2 : mY} {hs : List (Nat × Nat × Nat × Nat)} {d pc : Nat} {L st As args : List mV} {M : mM} {Q : Option mV → mM → Prop}
theorem wm_openW {Q9 : Int → mM → Prop} (hp : plainName y.1.cls = true) (hlen : (mEnt args).length ≤ y.2.2.1) (hL : mEnt args ++ List.replicate (y.2.2.1 - (mEnt args).length) vd = L) (h : mWm G y d 0 L [] M (fun r M1 => ∃ x, r = some (vi x) ∧ Q9 x M1)) : CiW G y hs d args M Q9 := by
  obtain ⟨r, M', ⟨h1, h2⟩, h3⟩ := h
  refine ⟨r, M', ⟨h1, ?_⟩, h3⟩
  refine va_MetW (cc := y.2.1) (maxL := y.2.2.1) (ret := y.2.2.2) (hh := hs) hp rfl ?_
  intro p e s m args9 below meth c s₁ B hml hv
  obtain ⟨rfl, hRep, hK, hh, hal⟩ := hv
  have hl := lv_entry (args.map mcv) (n := y.2.2.1) (by rw [mEnt_len]; exact hlen)
  rw [lg_entry_eq]
  generalize (lg_sl (args.map mcv) ++ List.replicate (y.2.2.1 - (lg_sl (args.map mcv)).length) Slot.unset).toArray = ls at hl ⊢
  have hLs : mLs ls y.2.2.1 L := by
    refine ⟨hl.1, hl.2.1, fun i v hi hv => ?_⟩
    rw [← hL] at hi
    by_cases q : i < (mEnt args).length
    · rw [List.getElem?_append_left q] at hi
      have := mEnt_args args 0 i v hi hv
      rw [Nat.zero_add] at this
      exact hl.2.2 _ this
    · rw [List.getElem?_append_right (by omega)] at hi
      have := List.mem_of_getElem? hi
      rw [List.eq_of_mem_replicate this] at hv
      cases hv
  have := h2 p e (headSpec (zW (yW y hs)) { frames := d, cells := mZ M' - mZ M, slots := mS M' - mS M, locals := 64 * d }).room s m (args.map mcv).toArray below meth c s.heap [] 0 0 ls ⟨B.exec, B.bytes, hml, B.returns, B.notSynchronized, (name_of_methodNamed B.named B.method).1, findClass_of_methodNamed B.named, hK, hh.use _, hh, hal, Nat.le_refl _, Nat.le_refl _⟩ hRep (fun q h => by cases h) (by rw [Nat.zero_add]; exact Nat.le_refl _) (by rw [Nat.zero_add]; exact Nat.le_refl _) hLs
  rw [Nat.zero_add, Nat.zero_add] at this
  exact this
theorem wm_callSW {idx n : Nat} {st0 : List mV} (h1 : Cond.methodLink y.1.cls idx y2.1 ∈ lw_R) (h2 : Cond.static y2.1 ∈ lw_R) (h4 : Cond.initialized y2.1.cls ∈ lw_R) (h5 : yW y2 hs ∈ lw_R) (hd2 : y2.1.cls ≠ "java/lang/invoke/MethodHandle" ∧ y2.1.cls ≠ "java/lang/invoke/VarHandle" ∧ (parseMethodDescriptor y2.1.desc).map (fun d => d.parameters.length) = some n) (hnL : y2.2.2.1 ≤ 45) (hn : As.length = n) (hst : st0 = As.reverse ++ st) (hW : (st.map mcat).sum ≤ 8) (hd : decode y.2.1 pc = .ok (.invokestatic idx, 3))
    (h : CiW G y2 hs d As M (fun x M1 => mWm G y (d + 1) (pc + 3) L (vi x :: st) M1 Q)) : mWm G y (d + 1) pc L st0 M Q := by
  obtain ⟨r, M1, hC, x, rfl, r2, M2, ⟨⟨z1, z2⟩, hE⟩, hQ⟩ := h
  have hz := hC.1
  refine ⟨r2, M2, ⟨⟨by omega, by omega⟩, fun p e R s m args below meth c H locs cells slots ls hA hR hl hc hs' hL => ?_⟩, hQ⟩
  intro T hT X
  subst hst
  have hA' := hA
  obtain ⟨hx, hb, hml, -, -, -, hown, hKK, hts, hh, hal, hfr, hlo⟩ := hA'
  obtain ⟨v, s9, t, T', L', h0, X', hL', e1, e2, ⟨hv, hrep⟩, go⟩ := zRunSW (g := F0 m pc ls ((As.reverse ++ st).map mcv)) (rest := st.map mcv) (As := As.map mcv) ⟨hx, hb, hml, hown, hts⟩ hC.2 (n := n) h1 h2 h4 h5 rfl rfl hd2 (m_room hfr hlo hnL) ⟨mPre_blind, fun U hU hW9 => ⟨rfl, mPre_at hKK hh hal hR hU hW9⟩⟩ rfl (by rw [List.length_map]; exact hn) hL.1 (by show (As.reverse ++ st).map mcv = _; rw [List.map_append, List.map_reverse]) (by rw [m_cats]; show 2 * 0 + _ ≤ 8; omega) hd ⟨by omega, by omega⟩ T hT X
  have hv' : v = some (mcv (vi x)) := Outcome.returned.inj hv
  subst hv'
  obtain ⟨t2, a1, b1⟩ := hE p e R s m args below meth c T'.heap (locs ++ L') (cells + (mZ M1 - mZ M)) (slots + (mS M1 - mS M)) ls hA (by rw [e1]; exact hrep) (t_lL hl hL') (by omega) (by omega) hL T' rfl X'
  refine ⟨t2, go t2 a1, ?_⟩
  rw [show cells + (mZ M2 - mZ M) = cells + (mZ M1 - mZ M) + (mZ M2 - mZ M1) by omega, show slots + (mS M2 - mS M) = slots + (mS M1 - mS M) + (mS M2 - mS M1) by omega]
  exact b1
/-- the first row of the table takes it -/
theorem mClW.first {c b idx n k v : Nat} {k0 : Fin 4} {cls : String} {r0 : vw_C} {t9 : Nat → FieldType} (hcl : vwCl[c]? = some r0) (hty : vwTy[c]? = some t9) (hr0 : r0.1 = y2.1.cls) (h1 : Cond.methodLink y.1.cls idx y2.1 ∈ lw_R) (h2 : Cond.instanceMethod y2.1 ∈ lw_R) (h3 : Cond.selects y2.1.cls y2.1 y2.1 ∈ lw_R) (h4 : Cond.initialized y2.1.cls ∈ lw_R) (h5 : yC y2 ∈ lw_R) (hd2 : y2.1.cls ≠ "java/lang/invoke/MethodHandle" ∧ y2.1.cls ≠ "java/lang/invoke/VarHandle" ∧ (parseMethodDescriptor y2.1.desc).map (fun d => d.parameters.length) = some n) (hnL : y2.2.2.1 ≤ 45) (hn : As.length = n) (hW : (st.map mcat).sum ≤ 8) (hd : decode y.2.1 pc = .ok (.invokevirtual idx, 3)) (hKb : mK M b = c + 1)
    (hp : plainName y.1.cls = true) (hlen : (mEnt args).length ≤ y.2.2.1) (hL : mEnt args ++ List.replicate (y.2.2.1 - (mEnt args).length) vd = L) (hr : y.2.2.2 = some .int) (hM : mCt G y2 d (vr b :: As) M cls) (go : mGo G y (d + 1) L M 0 [] pc (As.reverse ++ vr b :: st))
    (x1 : ExceptionTableEntry) (more : List ExceptionTableEntry) (hsp : tableOf hs = x1 :: more) (hcov : covers x1 pc = true) (hx0 : x1.catchType ≠ 0) (kl : Cond.classLink y.1.cls x1.catchType cls ∈ lw_R) (kc : Cond.castable cls cls ∈ lw_R) (hd0 : decode y.2.1 x1.handlerPc = .ok (.astore_n k0, 1)) (hk : (k0 : Nat) = k) (hkl : k < y.2.2.1) (hd1 : decode y.2.1 (x1.handlerPc + 1) = .ok (.iconst (v : Int), 1)) (hd3 : decode y.2.1 (x1.handlerPc + 1 + 1) = .ok (.ireturn, 1)) : mClW G y hs (d + 1) args M (some (vi (v : Int))) (mNew M 50 0 6) := by
  refine ⟨⟨Nat.le_succ _, Nat.le_add_right _ _⟩, ?_⟩
  rw [show mZ (mNew M 50 0 6) - mZ M = 1 by show mZ M + 1 - mZ M = 1; omega, show mS (mNew M 50 0 6) - mS M = 6 by show mS M + 6 - mS M = 6; omega]
  refine va_MetW (cc := y.2.1) (maxL := y.2.2.1) (ret := y.2.2.2) (hh := hs) hp rfl ?_
  intro p e s m args9 below meth co s₁ B hml hv
  obtain ⟨rfl, hRep, hK, hh, hal⟩ := hv
  have hl := lv_entry (args.map mcv) (n := y.2.2.1) (by rw [mEnt_len]; exact hlen)
  rw [lg_entry_eq]
  generalize (lg_sl (args.map mcv) ++ List.replicate (y.2.2.1 - (lg_sl (args.map mcv)).length) Slot.unset).toArray = ls at hl ⊢
  have hLs : mLs ls y.2.2.1 L := by
    refine ⟨hl.1, hl.2.1, fun i v hi hv => ?_⟩
    rw [← hL] at hi
    by_cases q : i < (mEnt args).length
    · rw [List.getElem?_append_left q] at hi
      have := mEnt_args args 0 i v hi hv
      rw [Nat.zero_add] at this
      exact hl.2.2 _ this
    · rw [List.getElem?_append_right (by omega)] at hi
      have := List.mem_of_getElem? hi
      rw [List.eq_of_mem_replicate this] at hv
      cases hv
  have ht : co.exceptionTable.toList = tableOf hs := by
    obtain ⟨m9, meth9, c9, hn9, h1, h2, -, -, h6, -⟩ := Cond.codeWith_spec (atoms_spec (ws := zW (yW y hs)) B.pre _ List.mem_cons_self)
    cases Option.some.inj (hn9.symm.trans B.named)
    cases Option.some.inj (h1.symm.trans B.method)
    cases Option.some.inj (h2.symm.trans (Stand.of_body B).code)
    rw [← h6, table_eq]
  have hA : mAt G y (d + 1) p (headSpec (zW (yW y hs)) { frames := d + 1, cells := 1, slots := 6, locals := 64 * (d + 1) }).room s m (args.map mcv).toArray meth co := ⟨B.exec, B.bytes, hml, B.returns, B.notSynchronized, (name_of_methodNamed B.named B.method).1, findClass_of_methodNamed B.named, hK, hh.use _, hh, hal, Nat.le_refl _, Nat.le_refl _⟩
  refine go p e _ s m (args.map mcv).toArray below meth co s.heap [] 0 0 ls _ hA hRep hLs (Nat.zero_le _) (Nat.zero_le _) ?_
  obtain ⟨hx, hb, hml9, hret, hlk, -, hown, hKK, hts, -, -, hfr, hlo⟩ := hA
  obtain ⟨hb1, cell, q1, q2, q3, q4⟩ := (hRep.2.2.2.2.2.2 b).1 c _ t9 hKb hcl hty
  have hbv : mcv (vr b) = .ref b := hRep.own hb1
  have hM' := hM
  unfold mCt at hM'
  rw [List.map_cons, hbv] at hM'
  rw [List.map_append, List.map_cons, hbv, List.map_reverse]
  refine xCallV (As := As.map mcv) (rest := st.map mcv) ⟨hx, hb, hml9, hown, hts⟩ hM' (C := y2.1.cls) (n := n) ⟨callB_of n hts (zGood h5 rfl) rfl rfl rfl (hts _ h4) (hts _ h1) hd2 (m_room hfr hlo hnL), hts _ h2, hts _ h3⟩ ⟨mPre_blind, ⟨cell, q1, by rw [q3]; rfl, by rw [q2, ← hr0]; exact (hKK.1 c _ hcl).2.1⟩, fun U hU hW9 => ⟨rfl, mPre_at hKK hh hal hRep hU hW9⟩⟩ (by rw [List.length_map]; exact hn) hLs.1 (by rw [m_cats]; show 2 * 0 + _ ≤ 8; omega) hd ⟨Nat.le_refl _, Nat.le_refl _⟩ (fun v9 st₀ t L9 h0 hwm hL9 hw hq => ?_) (fun x9 st₀ t L9 h0 hwm hL9 hw hq T9 hT9 X9 => ?_)
  · obtain ⟨a, ce, ho, -⟩ := hq
    cases ho
  · obtain ⟨a, ce, ho, hce, hv, hcl9, hrep⟩ := hq
    cases ho
    have hE : s.vm.findClass cls = some ce.cls := by rw [← hwm.alike.findClass]; exact hcl9
    refine xCatch1 hown x1 more (by rw [ht]; exact hsp) hcov hx0 (hts _ kl) (hts _ kc) hce hv hE ?_ hT9 X9
    refine lv_astore_n (lv := []) hx hb hd0 hk ⟨hLs.1, hLs.2.1, fun q hq => by cases hq⟩ hkl rfl (fun ls' hl' => ?_)
    refine lv_iconst (v := Int32.ofInt (v : Int)) hx hb hd1 rfl ?_
    exact W.zret hx hb (hret.trans hr) rfl (fun t2 ht2 hW2 => ⟨rfl, by rw [ht2]; exact hrep⟩) (fun q hq => hL9 q (by simpa using hq)) hd3 hlk
/-- as the first, but the exception goes into a far local -/
theorem mClW.firstF {c b idx n k v : Nat} {k0 : Fin 4} {cls : String} {r0 : vw_C} {t9 : Nat → FieldType} (hcl : vwCl[c]? = some r0) (hty : vwTy[c]? = some t9) (hr0 : r0.1 = y2.1.cls) (h1 : Cond.methodLink y.1.cls idx y2.1 ∈ lw_R) (h2 : Cond.instanceMethod y2.1 ∈ lw_R) (h3 : Cond.selects y2.1.cls y2.1 y2.1 ∈ lw_R) (h4 : Cond.initialized y2.1.cls ∈ lw_R) (h5 : yC y2 ∈ lw_R) (hd2 : y2.1.cls ≠ "java/lang/invoke/MethodHandle" ∧ y2.1.cls ≠ "java/lang/invoke/VarHandle" ∧ (parseMethodDescriptor y2.1.desc).map (fun d => d.parameters.length) = some n) (hnL : y2.2.2.1 ≤ 45) (hn : As.length = n) (hW : (st.map mcat).sum ≤ 8) (hd : decode y.2.1 pc = .ok (.invokevirtual idx, 3)) (hKb : mK M b = c + 1)
    (hp : plainName y.1.cls = true) (hlen : (mEnt args).length ≤ y.2.2.1) (hL : mEnt args ++ List.replicate (y.2.2.1 - (mEnt args).length) vd = L) (hr : y.2.2.2 = some .int) (hM : mCt G y2 d (vr b :: As) M cls) (go : mGo G y (d + 1) L M 0 [] pc (As.reverse ++ vr b :: st))
    (x1 : ExceptionTableEntry) (more : List ExceptionTableEntry) (hsp : tableOf hs = x1 :: more) (hcov : covers x1 pc = true) (hx0 : x1.catchType ≠ 0) (kl : Cond.classLink y.1.cls x1.catchType cls ∈ lw_R) (kc : Cond.castable cls cls ∈ lw_R) (hd0 : decode y.2.1 x1.handlerPc = .ok (.astore k, 2)) (hkl : k < y.2.2.1) (hd1 : decode y.2.1 (x1.handlerPc + 2) = .ok (.iconst (v : Int), 1)) (hd3 : decode y.2.1 (x1.handlerPc + 2 + 1) = .ok (.ireturn, 1)) : mClW G y hs (d + 1) args M (some (vi (v : Int))) (mNew M 50 0 6) := by
  refine ⟨⟨Nat.le_succ _, Nat.le_add_right _ _⟩, ?_⟩
  rw [show mZ (mNew M 50 0 6) - mZ M = 1 by show mZ M + 1 - mZ M = 1; omega, show mS (mNew M 50 0 6) - mS M = 6 by show mS M + 6 - mS M = 6; omega]
  refine va_MetW (cc := y.2.1) (maxL := y.2.2.1) (ret := y.2.2.2) (hh := hs) hp rfl ?_
  intro p e s m args9 below meth co s₁ B hml hv
  obtain ⟨rfl, hRep, hK, hh, hal⟩ := hv
  have hl := lv_entry (args.map mcv) (n := y.2.2.1) (by rw [mEnt_len]; exact hlen)
  rw [lg_entry_eq]
  generalize (lg_sl (args.map mcv) ++ List.replicate (y.2.2.1 - (lg_sl (args.map mcv)).length) Slot.unset).toArray = ls at hl ⊢
  have hLs : mLs ls y.2.2.1 L := by
    refine ⟨hl.1, hl.2.1, fun i v hi hv => ?_⟩
    rw [← hL] at hi
    by_cases q : i < (mEnt args).length
    · rw [List.getElem?_append_left q] at hi
      have := mEnt_args args 0 i v hi hv
      rw [Nat.zero_add] at this
      exact hl.2.2 _ this
    · rw [List.getElem?_append_right (by omega)] at hi
      have := List.mem_of_getElem? hi
      rw [List.eq_of_mem_replicate this] at hv
      cases hv
  have ht : co.exceptionTable.toList = tableOf hs := by
    obtain ⟨m9, meth9, c9, hn9, h1, h2, -, -, h6, -⟩ := Cond.codeWith_spec (atoms_spec (ws := zW (yW y hs)) B.pre _ List.mem_cons_self)
    cases Option.some.inj (hn9.symm.trans B.named)
    cases Option.some.inj (h1.symm.trans B.method)
    cases Option.some.inj (h2.symm.trans (Stand.of_body B).code)
    rw [← h6, table_eq]
  have hA : mAt G y (d + 1) p (headSpec (zW (yW y hs)) { frames := d + 1, cells := 1, slots := 6, locals := 64 * (d + 1) }).room s m (args.map mcv).toArray meth co := ⟨B.exec, B.bytes, hml, B.returns, B.notSynchronized, (name_of_methodNamed B.named B.method).1, findClass_of_methodNamed B.named, hK, hh.use _, hh, hal, Nat.le_refl _, Nat.le_refl _⟩
  refine go p e _ s m (args.map mcv).toArray below meth co s.heap [] 0 0 ls _ hA hRep hLs (Nat.zero_le _) (Nat.zero_le _) ?_
  obtain ⟨hx, hb, hml9, hret, hlk, -, hown, hKK, hts, -, -, hfr, hlo⟩ := hA
  obtain ⟨hb1, cell, q1, q2, q3, q4⟩ := (hRep.2.2.2.2.2.2 b).1 c _ t9 hKb hcl hty
  have hbv : mcv (vr b) = .ref b := hRep.own hb1
  have hM' := hM
  unfold mCt at hM'
  rw [List.map_cons, hbv] at hM'
  rw [List.map_append, List.map_cons, hbv, List.map_reverse]
  refine xCallV (As := As.map mcv) (rest := st.map mcv) ⟨hx, hb, hml9, hown, hts⟩ hM' (C := y2.1.cls) (n := n) ⟨callB_of n hts (zGood h5 rfl) rfl rfl rfl (hts _ h4) (hts _ h1) hd2 (m_room hfr hlo hnL), hts _ h2, hts _ h3⟩ ⟨mPre_blind, ⟨cell, q1, by rw [q3]; rfl, by rw [q2, ← hr0]; exact (hKK.1 c _ hcl).2.1⟩, fun U hU hW9 => ⟨rfl, mPre_at hKK hh hal hRep hU hW9⟩⟩ (by rw [List.length_map]; exact hn) hLs.1 (by rw [m_cats]; show 2 * 0 + _ ≤ 8; omega) hd ⟨Nat.le_refl _, Nat.le_refl _⟩ (fun v9 st₀ t L9 h0 hwm hL9 hw hq => ?_) (fun x9 st₀ t L9 h0 hwm hL9 hw hq T9 hT9 X9 => ?_)
  · obtain ⟨a, ce, ho, -⟩ := hq
    cases ho
  · obtain ⟨a, ce, ho, hce, hv, hcl9, hrep⟩ := hq
    cases ho
    have hE : s.vm.findClass cls = some ce.cls := by rw [← hwm.alike.findClass]; exact hcl9
    refine xCatch1 hown x1 more (by rw [ht]; exact hsp) hcov hx0 (hts _ kl) (hts _ kc) hce hv hE ?_ hT9 X9
    refine lv_astore (lv := []) hx hb hd0 ⟨hLs.1, hLs.2.1, fun q hq => by cases hq⟩ hkl rfl (fun ls' hl' => ?_)
    refine lv_iconst (v := Int32.ofInt (v : Int)) hx hb hd1 rfl ?_
    exact W.zret hx hb (hret.trans hr) rfl (fun t2 ht2 hW2 => ⟨rfl, by rw [ht2]; exact hrep⟩) (fun q hq => hL9 q (by simpa using hq)) hd3 hlk
/-- the second row takes it -/
theorem mClW.second {c b idx n k v : Nat} {k0 : Fin 4} {cls : String} {r0 : vw_C} {t9 : Nat → FieldType} (hcl : vwCl[c]? = some r0) (hty : vwTy[c]? = some t9) (hr0 : r0.1 = y2.1.cls) (h1 : Cond.methodLink y.1.cls idx y2.1 ∈ lw_R) (h2 : Cond.instanceMethod y2.1 ∈ lw_R) (h3 : Cond.selects y2.1.cls y2.1 y2.1 ∈ lw_R) (h4 : Cond.initialized y2.1.cls ∈ lw_R) (h5 : yC y2 ∈ lw_R) (hd2 : y2.1.cls ≠ "java/lang/invoke/MethodHandle" ∧ y2.1.cls ≠ "java/lang/invoke/VarHandle" ∧ (parseMethodDescriptor y2.1.desc).map (fun d => d.parameters.length) = some n) (hnL : y2.2.2.1 ≤ 45) (hn : As.length = n) (hW : (st.map mcat).sum ≤ 8) (hd : decode y.2.1 pc = .ok (.invokevirtual idx, 3)) (hKb : mK M b = c + 1)
    (hp : plainName y.1.cls = true) (hlen : (mEnt args).length ≤ y.2.2.1) (hL : mEnt args ++ List.replicate (y.2.2.1 - (mEnt args).length) vd = L) (hr : y.2.2.2 = some .int) (hM : mCt G y2 d (vr b :: As) M cls) (go : mGo G y (d + 1) L M 0 [] pc (As.reverse ++ vr b :: st))
    {cls1 : String} (x1 x2 : ExceptionTableEntry) (more : List ExceptionTableEntry) (hsp : tableOf hs = x1 :: x2 :: more) (hcov1 : covers x1 pc = true) (hx01 : x1.catchType ≠ 0) (hcov : covers x2 pc = true) (hx0 : x2.catchType ≠ 0) (kl1 : Cond.classLink y.1.cls x1.catchType cls1 ∈ lw_R) (hNo : va_Nc cls cls1 (gS G)) (kl : Cond.classLink y.1.cls x2.catchType cls ∈ lw_R) (kc : Cond.castable cls cls ∈ lw_R) (hd0 : decode y.2.1 x2.handlerPc = .ok (.astore_n k0, 1)) (hk : (k0 : Nat) = k) (hkl : k < y.2.2.1) (hd1 : decode y.2.1 (x2.handlerPc + 1) = .ok (.iconst (v : Int), 1)) (hd3 : decode y.2.1 (x2.handlerPc + 1 + 1) = .ok (.ireturn, 1)) : mClW G y hs (d + 1) args M (some (vi (v : Int))) (mNew M 50 0 6) := by
  refine ⟨⟨Nat.le_succ _, Nat.le_add_right _ _⟩, ?_⟩
  rw [show mZ (mNew M 50 0 6) - mZ M = 1 by show mZ M + 1 - mZ M = 1; omega, show mS (mNew M 50 0 6) - mS M = 6 by show mS M + 6 - mS M = 6; omega]
  refine va_MetW (cc := y.2.1) (maxL := y.2.2.1) (ret := y.2.2.2) (hh := hs) hp rfl ?_
  intro p e s m args9 below meth co s₁ B hml hv
  obtain ⟨rfl, hRep, hK, hh, hal⟩ := hv
  have hl := lv_entry (args.map mcv) (n := y.2.2.1) (by rw [mEnt_len]; exact hlen)
  rw [lg_entry_eq]
  generalize (lg_sl (args.map mcv) ++ List.replicate (y.2.2.1 - (lg_sl (args.map mcv)).length) Slot.unset).toArray = ls at hl ⊢
  have hLs : mLs ls y.2.2.1 L := by
    refine ⟨hl.1, hl.2.1, fun i v hi hv => ?_⟩
    rw [← hL] at hi
    by_cases q : i < (mEnt args).length
    · rw [List.getElem?_append_left q] at hi
      have := mEnt_args args 0 i v hi hv
      rw [Nat.zero_add] at this
      exact hl.2.2 _ this
    · rw [List.getElem?_append_right (by omega)] at hi
      have := List.mem_of_getElem? hi
      rw [List.eq_of_mem_replicate this] at hv
      cases hv
  have ht : co.exceptionTable.toList = tableOf hs := by
    obtain ⟨m9, meth9, c9, hn9, h1, h2, -, -, h6, -⟩ := Cond.codeWith_spec (atoms_spec (ws := zW (yW y hs)) B.pre _ List.mem_cons_self)
    cases Option.some.inj (hn9.symm.trans B.named)
    cases Option.some.inj (h1.symm.trans B.method)
    cases Option.some.inj (h2.symm.trans (Stand.of_body B).code)
    rw [← h6, table_eq]
  have hA : mAt G y (d + 1) p (headSpec (zW (yW y hs)) { frames := d + 1, cells := 1, slots := 6, locals := 64 * (d + 1) }).room s m (args.map mcv).toArray meth co := ⟨B.exec, B.bytes, hml, B.returns, B.notSynchronized, (name_of_methodNamed B.named B.method).1, findClass_of_methodNamed B.named, hK, hh.use _, hh, hal, Nat.le_refl _, Nat.le_refl _⟩
  refine go p e _ s m (args.map mcv).toArray below meth co s.heap [] 0 0 ls _ hA hRep hLs (Nat.zero_le _) (Nat.zero_le _) ?_
  obtain ⟨hx, hb, hml9, hret, hlk, -, hown, hKK, hts, -, -, hfr, hlo⟩ := hA
  obtain ⟨hb1, cell, q1, q2, q3, q4⟩ := (hRep.2.2.2.2.2.2 b).1 c _ t9 hKb hcl hty
  have hbv : mcv (vr b) = .ref b := hRep.own hb1
  have hM' := hM
  unfold mCt at hM'
  rw [List.map_cons, hbv] at hM'
  rw [List.map_append, List.map_cons, hbv, List.map_reverse]
  refine xCallV (As := As.map mcv) (rest := st.map mcv) ⟨hx, hb, hml9, hown, hts⟩ hM' (C := y2.1.cls) (n := n) ⟨callB_of n hts (zGood h5 rfl) rfl rfl rfl (hts _ h4) (hts _ h1) hd2 (m_room hfr hlo hnL), hts _ h2, hts _ h3⟩ ⟨mPre_blind, ⟨cell, q1, by rw [q3]; rfl, by rw [q2, ← hr0]; exact (hKK.1 c _ hcl).2.1⟩, fun U hU hW9 => ⟨rfl, mPre_at hKK hh hal hRep hU hW9⟩⟩ (by rw [List.length_map]; exact hn) hLs.1 (by rw [m_cats]; show 2 * 0 + _ ≤ 8; omega) hd ⟨Nat.le_refl _, Nat.le_refl _⟩ (fun v9 st₀ t L9 h0 hwm hL9 hw hq => ?_) (fun x9 st₀ t L9 h0 hwm hL9 hw hq T9 hT9 X9 => ?_)
  · obtain ⟨a, ce, ho, -⟩ := hq
    cases ho
  · obtain ⟨a, ce, ho, hce, hv, hcl9, hrep⟩ := hq
    cases ho
    have hE : s.vm.findClass cls = some ce.cls := by rw [← hwm.alike.findClass]; exact hcl9
    refine xCatch2 hown x1 x2 more (by rw [ht]; exact hsp) hcov1 hx01 hcov hx0 (hts _ kl1) (hNo.moved hal.1) (hts _ kl) (hts _ kc) hce hv hE ?_ hT9 X9
    refine lv_astore_n (lv := []) hx hb hd0 hk ⟨hLs.1, hLs.2.1, fun q hq => by cases hq⟩ hkl rfl (fun ls' hl' => ?_)
    refine lv_iconst (v := Int32.ofInt (v : Int)) hx hb hd1 rfl ?_
    exact W.zret hx hb (hret.trans hr) rfl (fun t2 ht2 hW2 => ⟨rfl, by rw [ht2]; exact hrep⟩) (fun q hq => hL9 q (by simpa using hq)) hd3 hlk
end HEL
