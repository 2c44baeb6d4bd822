/-! Methods that only read: a call of one leaves the heap as it is, so that it may stand before a throw. -/
def mCp (G : mG) (y : mY) (d : Nat) (args : List mV) (M : mM) (x : Int) : Prop := Met (gL G) y.1 (zW (yC y)) { frames := d, cells := 0, slots := 0, locals := 64 * d } (va_Pc (args.map mcv) (mPre G M)) (fun _ st oc t => oc = .returned (some (.int (Int32.ofInt x))) ∧ t.heap = st.heap) 0 0 (fun _ => False)
section PUR
variable {G : mG} {y y2 : mY} {d pc pc9 : Nat} {L st st9 As : List mV} {M : mM}
theorem mCp.of {x : Int} {ty : FieldType} {args : List mV} (hp : plainName y.1.cls = true) (hlen : (mEnt args).length ≤ y.2.2.1) (hL : mEnt args ++ List.replicate (y.2.2.1 - (mEnt args).length) vd = L) (hd : decode y.2.1 pc = .ok (.ireturn, 1)) (hr : y.2.2.2 = some ty) (hn : narrow ty (.int (Int32.ofInt x)) = .int (Int32.ofInt x)) (go : mGo G y d L M 0 [] pc [vi x]) : mCp G y d args M x := by
  refine Met.ofW (cc := y.2.1) (maxL := y.2.2.1) (ret := y.2.2.2) hp rfl ?_
  intro p e s m args9 below meth c s₁ B hml hv
  obtain ⟨rfl, hRep, hK, hh, hal⟩ := hv
  have hl := lv_entry (args.map mcv) (n := y.2.2.1) (by rw [mEnt_len]; exact hlen)
  rw [lg_entry_eq]
  generalize (lg_sl (args.map mcv) ++ List.replicate (y.2.2.1 - (lg_sl (args.map mcv)).length) Slot.unset).toArray = ls at hl ⊢
  have hLs : mLs ls y.2.2.1 L := by
    refine ⟨hl.1, hl.2.1, fun i v hi hv => ?_⟩
    rw [← hL] at hi
    by_cases q : i < (mEnt args).length
    · rw [List.getElem?_append_left q] at hi
      have := mEnt_args args 0 i v hi hv
      rw [Nat.zero_add] at this
      exact hl.2.2 _ this
    · rw [List.getElem?_append_right (by omega)] at hi
      have := List.mem_of_getElem? hi
      rw [List.eq_of_mem_replicate this] at hv
      cases hv
  refine go p e (headSpec (zW (yC y)) { frames := d, cells := 0, slots := 0, locals := 64 * d }).room s m (args.map mcv).toArray below meth c s.heap [] 0 0 ls _ ⟨B.exec, B.bytes, hml, B.returns, B.notSynchronized, (name_of_methodNamed B.named B.method).1, findClass_of_methodNamed B.named, hK, hh.use _, hh, hal, Nat.le_refl _, Nat.le_refl _⟩ hRep hLs (Nat.zero_le _) (Nat.zero_le _) ?_
  exact W.zret B.exec B.bytes (B.returns.trans hr) hn (fun t ht hW => ⟨rfl, ht⟩) (fun q h => by cases h) hd B.notSynchronized
theorem go_callP {c b idx n : Nat} {x : Int} {r0 : vw_C} {t9 : Nat → FieldType} {st0 : List mV} (hcl : vwCl[c]? = some r0) (hty : vwTy[c]? = some t9) (hr0 : r0.1 = y2.1.cls) (h1 : Cond.methodLink y.1.cls idx y2.1 ∈ lw_R) (h2 : Cond.instanceMethod y2.1 ∈ lw_R) (h3 : Cond.selects y2.1.cls y2.1 y2.1 ∈ lw_R) (h4 : Cond.initialized y2.1.cls ∈ lw_R) (h5 : yC y2 ∈ lw_R) (hd2 : y2.1.cls ≠ "java/lang/invoke/MethodHandle" ∧ y2.1.cls ≠ "java/lang/invoke/VarHandle" ∧ (parseMethodDescriptor y2.1.desc).map (fun d => d.parameters.length) = some n) (hnL : y2.2.2.1 ≤ 45) (hn : As.length = n) (hst : st0 = As.reverse ++ vr b :: st) (hW : (st.map mcat).sum ≤ 8) (hd : decode y.2.1 pc = .ok (.invokevirtual idx, 3)) (hK : mK M b = c + 1)
    (hM : mCp G y2 d (vr b :: As) M x) (h : mGo G y (d + 1) L M (pc + 3) (vi x :: st) pc9 st9) : mGo G y (d + 1) L M pc st0 pc9 st9 := by
  intro p e R s m args below meth c9 H locs cells slots ls Qf hA hR hL c1 c2 k
  have k' := h p e R s m args below meth c9 H locs cells slots ls Qf hA hR hL c1 c2 k
  subst hst
  obtain ⟨hx, hb, hml, -, -, -, hown, hKK, hts, hh, hal, hfr, hlo⟩ := hA
  obtain ⟨hb1, cell, q1, q2, q3, q4⟩ := (hR.2.2.2.2.2.2 b).1 c _ t9 hK hcl hty
  have hbv : mcv (vr b) = .ref b := hR.own hb1
  unfold mCp at hM
  rw [List.map_cons, hbv] at hM
  intro T hT X
  obtain ⟨v, s9, t, T', L', h0, X', hL', e1, e2, ⟨hv, hrep⟩, go⟩ := va_runV (g := F0 m pc ls ((As.reverse ++ vr b :: st).map mcv)) (rest := st.map mcv) ⟨hx, hb, hml, hown, hts⟩ hM (C := y2.1.cls) (n := n) ⟨callB_of n hts (zGood h5 rfl) rfl rfl rfl (hts _ h4) (hts _ h1) hd2 (m_room hfr hlo hnL), hts _ h2, hts _ h3⟩ ⟨mPre_blind, ⟨cell, q1, by rw [q3]; rfl, by rw [q2, ← hr0]; exact (hKK.1 c _ hcl).2.1⟩, fun U hU hW9 => ⟨rfl, mPre_at hKK hh hal hR hU hW9⟩⟩ rfl (by rw [List.length_map]; exact hn) hL.1 (by show (As.reverse ++ vr b :: st).map mcv = _; rw [List.map_append, List.map_cons, hbv, List.map_reverse]) (by rw [m_cats]; show 2 * 0 + _ ≤ 8; omega) hd ⟨c1, c2⟩ T hT X
  have hv' : v = some (.int (Int32.ofInt x)) := Outcome.returned.inj hv
  subst hv'
  have hnil : L' = [] := List.eq_nil_iff_forall_not_mem.mpr (fun q hq => hL' q hq)
  subst hnil
  rw [List.append_nil] at X'
  obtain ⟨t2, a1, b1⟩ := k' T' (by rw [e1, hrep, h0]) X'
  exact ⟨t2, go t2 a1, b1⟩
theorem p_Ga_hasState {g : Nat} {l : Int} (hO : mOk M) (il : i32 l) (kg : mK M g = 7) : mCp G y_Ga_hasState d [vr g, vi l] M (if 0 ≤ l ∧ l < mI M g 0 then 1 else 0) := by
  by_cases c : 0 ≤ l ∧ l < mI M g 0
  · rw [if_pos c]
    refine mCp.of (pc := 17) rfl (Nat.le_of_ble_eq_true rfl) (L := [vr g, vi l]) rfl d_Ga_hasState_17 rfl rfl ?_
    refine go_iload_n d_Ga_hasState_0 rfl rfl ?_
    refine go_if_lt (tgt := 16) d_Ga_hasState_1 rfl il (fun q => by omega) (fun _ => ?_)
    refine go_iload_n d_Ga_hasState_4 rfl rfl ?_
    refine go_aload_n d_Ga_hasState_5 rfl rfl ?_
    refine gg_Ga_55 rfl d_Ga_hasState_6 kg ?_
    refine go_icmp_ge (tgt := 16) d_Ga_hasState_9 rfl il (hO _ _).1 (fun q => by omega) (fun _ => ?_)
    refine go_iconst d_Ga_hasState_12 ?_
    exact go_goto (tgt := 17) d_Ga_hasState_13 rfl mGo.refl
  · rw [if_neg c]
    refine mCp.of (pc := 17) rfl (Nat.le_of_ble_eq_true rfl) (L := [vr g, vi l]) rfl d_Ga_hasState_17 rfl rfl ?_
    have fin : mGo G y_Ga_hasState d [vr g, vi l] M 16 [] 17 [vi 0] := go_iconst d_Ga_hasState_16 mGo.refl
    refine go_iload_n d_Ga_hasState_0 rfl rfl ?_
    refine go_if_lt (tgt := 16) d_Ga_hasState_1 rfl il (fun _ => fin) (fun q => ?_)
    refine go_iload_n d_Ga_hasState_4 rfl rfl ?_
    refine go_aload_n d_Ga_hasState_5 rfl rfl ?_
    refine gg_Ga_55 rfl d_Ga_hasState_6 kg ?_
    exact go_icmp_ge (tgt := 16) d_Ga_hasState_9 rfl il (hO _ _).1 (fun _ => fin) (fun q' => by omega)
end PUR
