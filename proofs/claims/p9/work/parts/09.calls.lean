/-! THE FLAT MACHINE'S RULES for calls. -/
theorem mPre_blind {G : mG} {av : List Value} {M : mM} : FrameBlind (va_Pc av (mPre G M)) := fun a U g mk q => by
  obtain ⟨q0, qR, qK, qH, qA⟩ := q
  exact ⟨q0, qR, va_K.moved (u := U) (U := U.calling g mk a) (Vm.Alike.refl U.vm) qK, zH.moved (s := U) (U := U.calling g mk a) (State.WarmedH.refl U) qH, qA.moved (U := U.calling g mk a) (State.WarmedH.refl U)⟩
theorem mPre_at {G : mG} {M : mM} {s U : State} {H : Heap} (hK : va_K (gD G) vwCl (zT (gA G)) s) (hh : zH s) (ha : mAl G s) (hR : mRep G M H) (hU : U.heap = H) (hW : s.WarmedH U.vm) : mPre G M U :=
  ⟨by rw [hU]; exact hR, va_K.moved hW.alike hK, zH.moved hW hh, ha.moved hW⟩
theorem m_opt (r : Option mV) (st : List mV) : (r.map mcv).toList ++ st.map mcv = (r.toList ++ st).map mcv := by cases r <;> rfl
theorem m_cats (st : List mV) : ((st.map mcv).map fun v => v.category).sum = (st.map mcat).sum := by
  rw [List.map_map]
  congr 1
  refine List.map_congr_left (fun v _ => ?_)
  exact mcat_mcv v
section CRules
variable {G : mG} {y y2 : mY} {d pc : Nat} {L st As : List mV} {M : mM} {Q : Option mV → mM → Prop}
/-- a call, whatever its kind: what its run gives goes on -/
theorem wm_run {st0 : List mV} {a0 : Array Value} (hs : ∀ (r : Option mV) (M1 : mM), mCl G y2 d As M r M1 → ∀ (p : Program) (e : Env) (R : Room) (s : State) (m : MethodId) (args : Array Value) (below : List Frame) (meth : Method) (c : Code) (H : Heap) (locs : List Loc) (cells slots : Nat) (ls : Array Slot), mAt G y (d + 1) p R s m args meth c → mRep G M H → mLs ls y.2.2.1 L → cells + (mZ M1 - mZ M) ≤ R.cells ∧ slots + (mS M1 - mS M) ≤ R.slots → va_Run p (gL G) e R s m args below meth c H locs cells slots (mZ M1 - mZ M) (mS M1 - mS M) (F0 m pc ls (st0.map mcv)) (st.map mcv) (mQ G r M1 a0) (mOwn G))
    (h : mCm G y2 d As M (fun r M1 => mWm G y (d + 1) (pc + 3) L (r.toList ++ st) M1 Q)) : mWm G y (d + 1) pc L st0 M Q := by
  obtain ⟨r, M1, hC, r2, M2, ⟨⟨z1, z2⟩, hE⟩, hQ⟩ := h
  have hz := hC.1
  refine ⟨r2, M2, ⟨⟨by omega, by omega⟩, fun p e R s m args below meth c H locs cells slots ls hA hR hl hc hs' hL => ?_⟩, hQ⟩
  intro T hT X
  obtain ⟨v, s9, t, T', L', h0, X', hL', e1, e2, ⟨hv, hrep⟩, go⟩ := hs r M1 hC p e R s m args below meth c H locs cells slots ls hA hR hL ⟨by omega, by omega⟩ T hT X
  have hv' : v = r.map mcv := Outcome.returned.inj hv
  subst hv'
  obtain ⟨t2, a1, b1⟩ := hE p e R s m args below meth c T'.heap (locs ++ L') (cells + (mZ M1 - mZ M)) (slots + (mS M1 - mS M)) ls hA (by rw [e1]; exact hrep) (t_lL hl hL') (by omega) (by omega) hL T' rfl X'
  rw [← m_opt] at a1
  refine ⟨t2, go t2 a1, ?_⟩
  rw [show cells + (mZ M2 - mZ M) = cells + (mZ M1 - mZ M) + (mZ M2 - mZ M1) by omega, show slots + (mS M2 - mS M) = slots + (mS M1 - mS M) + (mS M2 - mS M1) by omega]
  exact b1
theorem m_room {R : Room} {d n : Nat} (hd : d + 1 ≤ R.frames) (hl : 64 * (d + 1) ≤ R.locals) (hn : n ≤ 45) : d + 1 ≤ R.frames ∧ 8 + (n + 11) + 64 * d ≤ R.locals := ⟨hd, by omega⟩
theorem wm_callV {c b idx n : Nat} {r0 : vw_C} {t9 : Nat → FieldType} {st0 : List mV} (hcl : vwCl[c]? = some r0) (hty : vwTy[c]? = some t9) (hr0 : r0.1 = y2.1.cls) (h1 : Cond.methodLink y.1.cls idx y2.1 ∈ lw_R) (h2 : Cond.instanceMethod y2.1 ∈ lw_R) (h3 : Cond.selects y2.1.cls y2.1 y2.1 ∈ lw_R) (h4 : Cond.initialized y2.1.cls ∈ lw_R) (h5 : yC y2 ∈ lw_R) (hd2 : y2.1.cls ≠ "java/lang/invoke/MethodHandle" ∧ y2.1.cls ≠ "java/lang/invoke/VarHandle" ∧ (parseMethodDescriptor y2.1.desc).map (fun d => d.parameters.length) = some n) (hnL : y2.2.2.1 ≤ 45) (hn : As.length = n) (hst : st0 = As.reverse ++ vr b :: st) (hW : (st.map mcat).sum ≤ 8) (hd : decode y.2.1 pc = .ok (.invokevirtual idx, 3)) (hK : mK M b = c + 1)
    (h : mCm G y2 d (vr b :: As) M (fun r M1 => mWm G y (d + 1) (pc + 3) L (r.toList ++ st) M1 Q)) : mWm G y (d + 1) pc L st0 M Q :=
  wm_run (a0 := (Value.ref b :: As.map mcv).toArray) (fun r M1 hC p e R s m args below meth c9 H locs cells slots ls hA hR hL hf => by
    subst hst
    obtain ⟨hx, hb, hml, -, -, -, hown, hKK, hts, hh, hal, hfr, hlo⟩ := hA
    obtain ⟨hb1, cell, q1, q2, q3, q4⟩ := (hR.2.2.2.2.2.2 b).1 c _ t9 hK hcl hty
    have hbv : mcv (vr b) = .ref b := hR.own hb1
    have hM := hC.2
    rw [List.map_cons, hbv] at hM
    refine va_runV ⟨hx, hb, hml, hown, hts⟩ hM (C := y2.1.cls) (n := n) ⟨callB_of n hts (zGood h5 rfl) rfl rfl rfl (hts _ h4) (hts _ h1) hd2 (m_room hfr hlo hnL), hts _ h2, hts _ h3⟩ ⟨mPre_blind, ⟨cell, q1, by rw [q3]; rfl, by rw [q2, ← hr0]; exact (hKK.1 c _ hcl).2.1⟩, fun U hU hW9 => ⟨rfl, mPre_at hKK hh hal hR hU hW9⟩⟩ rfl (by rw [List.length_map]; exact hn) hL.1 ?_ (by rw [m_cats]; show 2 * 0 + _ ≤ 8; omega) hd hf
    show (As.reverse ++ vr b :: st).map mcv = _
    rw [List.map_append, List.map_cons, hbv, List.map_reverse]) h
theorem wm_callS {idx n : Nat} {st0 : List mV} (h1 : Cond.methodLink y.1.cls idx y2.1 ∈ lw_R) (h2 : Cond.static y2.1 ∈ lw_R) (h4 : Cond.initialized y2.1.cls ∈ lw_R) (h5 : yC y2 ∈ lw_R) (hd2 : y2.1.cls ≠ "java/lang/invoke/MethodHandle" ∧ y2.1.cls ≠ "java/lang/invoke/VarHandle" ∧ (parseMethodDescriptor y2.1.desc).map (fun d => d.parameters.length) = some n) (hnL : y2.2.2.1 ≤ 45) (hn : As.length = n) (hst : st0 = As.reverse ++ st) (hW : (st.map mcat).sum ≤ 8) (hd : decode y.2.1 pc = .ok (.invokestatic idx, 3))
    (h : mCm G y2 d As M (fun r M1 => mWm G y (d + 1) (pc + 3) L (r.toList ++ st) M1 Q)) : mWm G y (d + 1) pc L st0 M Q :=
  wm_run (a0 := (As.map mcv).toArray) (fun r M1 hC p e R s m args below meth c9 H locs cells slots ls hA hR hL hf => by
    subst hst
    obtain ⟨hx, hb, hml, -, -, -, hown, hKK, hts, hh, hal, hfr, hlo⟩ := hA
    refine va_runS ⟨hx, hb, hml, hown, hts⟩ hC.2 (n := n) ⟨callB_of n hts (zGood h5 rfl) rfl rfl rfl (hts _ h4) (hts _ h1) hd2 (m_room hfr hlo hnL), hts _ h2⟩ ⟨mPre_blind, fun U hU hW9 => ⟨rfl, mPre_at hKK hh hal hR hU hW9⟩⟩ rfl (by rw [List.length_map]; exact hn) hL.1 ?_ (by rw [m_cats]; show 2 * 0 + _ ≤ 8; omega) hd hf
    show (As.reverse ++ st).map mcv = _
    rw [List.map_append, List.map_reverse]) h
theorem wm_callI {c b idx n : Nat} {r0 : vw_C} {t9 : Nat → FieldType} {st0 : List mV} (hcl : vwCl[c]? = some r0) (hty : vwTy[c]? = some t9) (h1 : Cond.methodLink y.1.cls idx y2.1 ∈ lw_R) (h2 : Cond.instanceMethod y2.1 ∈ lw_R) (hini : y2.1.name = "<init>") (hret : y2.2.2.2 = none) (h4 : Cond.initialized y2.1.cls ∈ lw_R) (h5 : yC y2 ∈ lw_R) (hd2 : y2.1.cls ≠ "java/lang/invoke/MethodHandle" ∧ y2.1.cls ≠ "java/lang/invoke/VarHandle" ∧ (parseMethodDescriptor y2.1.desc).map (fun d => d.parameters.length) = some n) (hnL : y2.2.2.1 ≤ 45) (hn : As.length = n) (hst : st0 = As.reverse ++ vr b :: st) (hW : (st.map mcat).sum ≤ 8) (hd : decode y.2.1 pc = .ok (.invokespecial idx, 3)) (hK : mK M b = c + 1)
    (h : mCm G y2 d (vr b :: As) M (fun r M1 => mWm G y (d + 1) (pc + 3) L (r.toList ++ st) M1 Q)) : mWm G y (d + 1) pc L st0 M Q :=
  wm_run (a0 := (Value.ref b :: As.map mcv).toArray) (fun r M1 hC p e R s m args below meth c9 H locs cells slots ls hA hR hL hf => by
    subst hst
    obtain ⟨hx, hb, hml, -, -, -, hown, hKK, hts, hh, hal, hfr, hlo⟩ := hA
    obtain ⟨hb1, cell, q1, q2, q3, q4⟩ := (hR.2.2.2.2.2.2 b).1 c _ t9 hK hcl hty
    have hbv : mcv (vr b) = .ref b := hR.own hb1
    have hM := hC.2
    rw [List.map_cons, hbv] at hM
    have hcb := callB_of n hts (zGood h5 rfl) (rfl : zW (yC y2) = _ :: []) (rm := { frames := d, cells := mZ M1 - mZ M, slots := mS M1 - mS M, locals := 64 * d }) rfl rfl (hts _ h4) (hts _ h1) hd2 (m_room hfr hlo hnL)
    rw [hret] at hcb
    refine va_runI ⟨hx, hb, hml, hown, hts⟩ hM (n := n) ⟨hcb, hini, hts _ h2⟩ ⟨mPre_blind, fun U hU hW9 => ⟨rfl, mPre_at hKK hh hal hR hU hW9⟩⟩ rfl (by rw [List.length_map]; exact hn) hL.1 ?_ (by rw [m_cats]; show 2 * 0 + _ ≤ 8; omega) hd hf
    show (As.reverse ++ vr b :: st).map mcv = _
    rw [List.map_append, List.map_cons, hbv, List.map_reverse]) h
theorem wm_callIN {c b idx n : Nat} {host : String} {r0 : vw_C} {t9 : Nat → FieldType} {st0 : List mV} (hcl : vwCl[c]? = some r0) (hty : vwTy[c]? = some t9) (h1 : Cond.methodLinkNest y.1.cls idx y2.1 host ∈ lw_R) (h2 : Cond.instanceMethod y2.1 ∈ lw_R) (hini : y2.1.name = "<init>") (hret : y2.2.2.2 = none) (h4 : Cond.initialized y2.1.cls ∈ lw_R) (h5 : yC y2 ∈ lw_R) (hd2 : y2.1.cls ≠ "java/lang/invoke/MethodHandle" ∧ y2.1.cls ≠ "java/lang/invoke/VarHandle" ∧ (parseMethodDescriptor y2.1.desc).map (fun d => d.parameters.length) = some n) (hnL : y2.2.2.1 ≤ 45) (hn : As.length = n) (hst : st0 = As.reverse ++ vr b :: st) (hW : (st.map mcat).sum ≤ 8) (hd : decode y.2.1 pc = .ok (.invokespecial idx, 3)) (hK : mK M b = c + 1)
    (h : mCm G y2 d (vr b :: As) M (fun r M1 => mWm G y (d + 1) (pc + 3) L (r.toList ++ st) M1 Q)) : mWm G y (d + 1) pc L st0 M Q :=
  wm_run (a0 := (Value.ref b :: As.map mcv).toArray) (fun r M1 hC p e R s m args below meth c9 H locs cells slots ls hA hR hL hf => by
    subst hst
    obtain ⟨hx, hb, hml, -, -, -, hown, hKK, hts, hh, hal, hfr, hlo⟩ := hA
    obtain ⟨hb1, cell, q1, q2, q3, q4⟩ := (hR.2.2.2.2.2.2 b).1 c _ t9 hK hcl hty
    have hbv : mcv (vr b) = .ref b := hR.own hb1
    have hM := hC.2
    rw [List.map_cons, hbv] at hM
    have hcb := va_cnB n hts (zGood h5 rfl) (rfl : zW (yC y2) = _ :: []) (rm := { frames := d, cells := mZ M1 - mZ M, slots := mS M1 - mS M, locals := 64 * d }) rfl rfl (va_Nw.of rfl (hts _ h1)) (hts _ h4) hd2 (m_room hfr hlo hnL)
    rw [hret] at hcb
    refine va_runIN ⟨hx, hb, hml, hown, hts⟩ hM (n := n) ⟨hcb, hini, hts _ h2⟩ ⟨mPre_blind, fun U hU hW9 => ⟨rfl, mPre_at hKK hh hal hR hU hW9⟩⟩ rfl (by rw [List.length_map]; exact hn) hL.1 ?_ (by rw [m_cats]; show 2 * 0 + _ ≤ 8; omega) hd hf
    show (As.reverse ++ vr b :: st).map mcv = _
    rw [List.map_append, List.map_cons, hbv, List.map_reverse]) h
theorem wm_objInit {b idx : Nat} (hown9 : True) (h1 : Cond.methodLink y.1.cls idx Lib.objectInit ∈ lw_R) (h2 : Cond.instanceMethod Lib.objectInit ∈ lw_R) (h5 : Cond.code Lib.objectInit ⟨#[0xb1]⟩ 1 none ∈ lw_R) (hW : (st.map mcat).sum ≤ 8) (hd : decode y.2.1 pc = .ok (.invokespecial idx, 3)) (hb0 : 0 < b) (h : mWm G y (d + 1) (pc + 3) L st M Q) : mWm G y (d + 1) pc L (vr b :: st) M Q :=
  wm_st (fun p e R s m args below meth co H locs cells slots ls Qf hA hR hL kk => by
    obtain ⟨hx, hb, hml, -, -, -, hown, hKK, hts, hh, hal, hfr, hlo⟩ := hA
    show W p (gL G) e R s m args below meth co H locs cells slots Qf (F0 m pc ls (mcv (vr b) :: st.map mcv))
    rw [show mcv (vr b) = .ref b from if_neg (by omega)]
    exact W.objInit hx hb hown (hts _ h1) (hts _ h2) (hts _ h5) rfl (by rw [hml]; exact hL.1) rfl hd (by omega) (by rw [m_cats]; show 2 * 0 + _ + 12 ≤ _; omega) kk) h
end CRules
/-! what is asked of a call, by the kind of its answer -/
def Ci (G : mG) (y : mY) (d : Nat) (args : List mV) (M : mM) (Q : Int → mM → Prop) : Prop := mCm G y d args M (fun r M1 => ∃ x, r = some (vi x) ∧ Q x M1)
def Cj (G : mG) (y : mY) (d : Nat) (args : List mV) (M : mM) (Q : Int → mM → Prop) : Prop := mCm G y d args M (fun r M1 => ∃ x, r = some (vl x) ∧ Q x M1)
def Cr (G : mG) (y : mY) (d : Nat) (args : List mV) (M : mM) (Q : Nat → mM → Prop) : Prop := mCm G y d args M (fun r M1 => ∃ x, r = some (vr x) ∧ Q x M1)
def Cv (G : mG) (y : mY) (d : Nat) (args : List mV) (M : mM) (Q : mM → Prop) : Prop := mCm G y d args M (fun r M1 => r = none ∧ Q M1)
section CK
variable {G : mG} {y : mY} {d : Nat} {args : List mV} {M : mM}
theorem Ci.mono {Q Q' : Int → mM → Prop} (h : Ci G y d args M Q) (hq : ∀ x M', Q x M' → Q' x M') : Ci G y d args M Q' := mCm.mono h (fun r M' q => by obtain ⟨x, e, q⟩ := q; exact ⟨x, e, hq x M' q⟩)
theorem Cj.mono {Q Q' : Int → mM → Prop} (h : Cj G y d args M Q) (hq : ∀ x M', Q x M' → Q' x M') : Cj G y d args M Q' := mCm.mono h (fun r M' q => by obtain ⟨x, e, q⟩ := q; exact ⟨x, e, hq x M' q⟩)
theorem Cr.mono {Q Q' : Nat → mM → Prop} (h : Cr G y d args M Q) (hq : ∀ x M', Q x M' → Q' x M') : Cr G y d args M Q' := mCm.mono h (fun r M' q => by obtain ⟨x, e, q⟩ := q; exact ⟨x, e, hq x M' q⟩)
theorem Cv.mono {Q Q' : mM → Prop} (h : Cv G y d args M Q) (hq : ∀ M', Q M' → Q' M') : Cv G y d args M Q' := mCm.mono h (fun r M' q => by obtain ⟨e, q⟩ := q; exact ⟨e, hq M' q⟩)
end CK
