/-! THE FLAT MACHINE'S RULES for the heap. -/
theorem mOk_UI {M : mM} {a j : Nat} {x : Int} (h : mOk M) (hx : i32 x) : mOk (mUI M a j x) := by
  intro b k
  refine ⟨?_, (h b k).2⟩
  rw [mI_UI]
  split
  · exact hx
  · exact (h b k).1
theorem mOk_UL {M : mM} {a j : Nat} {x : Int} (h : mOk M) (hx : i64 x) : mOk (mUL M a j x) := by
  intro b k
  refine ⟨(h b k).1, ?_⟩
  rw [mL_UL]
  split
  · exact hx
  · exact (h b k).2
theorem mOk_UR {M : mM} {a j r : Nat} (h : mOk M) : mOk (mUR M a j r) := h
theorem mOk_New {M : mM} {k n c : Nat} (h : mOk M) : mOk (mNew M k n c) := by
  intro b j
  rw [mI_New, mL_New]
  split
  · exact ⟨⟨by decide, by decide⟩, ⟨by decide, by decide⟩⟩
  · exact h b j
theorem vwCl_lt {c : Nat} {r : vw_C} (h : vwCl[c]? = some r) : c < 20 := (List.getElem?_eq_some_iff.mp h).1
theorem arTy_lt {t : Nat} {ty : FieldType} (h : arTy[t]? = some ty) : t < 7 := (List.getElem?_eq_some_iff.mp h).1
theorem fV_UI {M : mM} {a k b j : Nat} {x : Int} (ty : FieldType) (h : ¬ (b = a ∧ j = k)) : fV ty (mUI M a k x) b j = fV ty M b j := by
  unfold fV
  split <;> try rfl
  rw [mI_UI, if_neg h]
theorem fV_UL {M : mM} {a k b j : Nat} {x : Int} (ty : FieldType) (h : ¬ (b = a ∧ j = k)) : fV ty (mUL M a k x) b j = fV ty M b j := by
  unfold fV
  split <;> try rfl
  rw [mL_UL, if_neg h]
theorem fV_UR {M : mM} {a k b j x : Nat} (ty : FieldType) (h : ¬ (b = a ∧ j = k)) : fV ty (mUR M a k x) b j = fV ty M b j := by
  unfold fV
  split <;> try rfl
  · rw [mR_UR, if_neg h]
  · rw [mR_UR, if_neg h]
theorem fV_New {M : mM} {k n c b j : Nat} (ty : FieldType) (h : ¬ b = mZ M) : fV ty (mNew M k n c) b j = fV ty M b j := by
  unfold fV
  split
  · rw [mL_New, if_neg h]
  · rw [mR_New, if_neg h]
  · rw [mR_New, if_neg h]
  · rw [mI_New, if_neg h]
section MR
variable {G : mG} {M M' : mM} {H H' : Heap}
/-- what another cell's change leaves -/
theorem mRep.keep (hR : mRep G M H) {b : Nat} (e : H'[b]? = H[b]?) (hk : mK M' b = mK M b) (hn : mN M' b = mN M b) (hv : ∀ ty j, fV ty M' b j = fV ty M b j) : mRepO G M' H' b ∧ mRepA G M' H' b ∧ mRepP G M' H' b := by
  obtain ⟨h1, h2, h3⟩ := hR.2.2.2.2.2.2 b
  refine ⟨fun c r t q1 q2 q3 => ?_, fun t ty q1 q2 => ?_, fun q1 => ?_⟩
  · obtain ⟨g1, g2⟩ := h1 c r t (by rw [← hk]; exact q1) q2 q3
    exact ⟨g1, (g2.kept e).to (fun k _ => (hv _ _).symm)⟩
  · obtain ⟨g1, g2, g3⟩ := h2 t ty (by rw [← hk]; exact q1) q2
    refine ⟨g1, by rw [hn]; exact g2, ?_⟩
    rw [e, g3, hn]
    congr 2
    funext j
    exact (hv ty j).symm
  · obtain ⟨g1, g2, cell, g3, g4, g5, g6, g7⟩ := h3 (by rw [← hk]; exact q1)
    refine ⟨g1, by rw [hn]; exact g2, cell, by rw [e]; exact g3, g4, g5, by rw [hn]; exact g6, fun j hj => ?_⟩
    rw [hn] at hj
    rw [g7 j hj]
    have := hv .int j
    exact congrArg some this.symm
theorem mRep.put (hR : mRep G M H) {a c k : Nat} {C : String} {T : u_T} {N : Nat} {t : Nat → FieldType} {v : Value} (hcl : vwCl[c]? = some (C, T, N)) (hty : vwTy[c]? = some t) (hk : k < N) (hK : mK M a = c + 1) (hap : ∀ x z, x < N → z < N → x ≠ z → (gD G).2 c x ≠ (gD G).2 c z)
    {cell : Cell} (hc : H[a]? = some cell) (e1 : H'[a]? = some (cell.setSlot ((gD G).2 c k) v)) (e2 : H'.size = H.size) (e3 : ∀ q, q ≠ a → H'[q]? = H[q]?)
    (m1 : mK M' = mK M) (m2 : mN M' = mN M) (m3 : mZ M' = mZ M) (hO : mOk M') (hv : ∀ ty b j, ¬ (b = a ∧ j = k) → fV ty M' b j = fV ty M b j) (hn : fV (t k) M' a k = v) : mRep G M' H' := by
  have hlt := vwCl_lt hcl
  obtain ⟨r1, r2, r3, r4, r5, r6, r7⟩ := hR
  have hR : mRep G M H := ⟨r1, r2, r3, r4, r5, r6, r7⟩
  obtain ⟨g1, cell', g2, g3, g4, g5⟩ := (r7 a).1 c _ t hK hcl hty
  have e9 : cell' = cell := Option.some.inj (g2.symm.trans hc)
  subst e9
  refine ⟨by rw [e2, m3]; exact r1, r2, by rw [m3]; exact r3, hO, fun q hq => by rw [e3 q (by have := r2.1; omega)]; exact r5 q hq, fun b hb => by rw [m1]; exact r6 b (by rw [← m3]; exact hb), fun b => ?_⟩
  by_cases hb : b = a
  · subst hb
    refine ⟨fun c' r' t' q1 q2 q3 => ?_, fun t' ty' q1 q2 => ?_, fun q1 => ?_⟩
    · have ec : c' = c := by rw [m1, hK] at q1; omega
      subst ec
      have er : r' = (C, T, N) := Option.some.inj (q2.symm.trans hcl)
      subst er
      have et : t' = t := Option.some.inj (q3.symm.trans hty)
      subst et
      refine ⟨g1, _, e1, g3, g4, fun j hj => ?_⟩
      rw [t_set g5 hap hk v j hj]
      unfold updV
      by_cases hjk : j = k
      · subst hjk; simp [hn]
      · simp [hjk, hv (t' j) b j (fun q => hjk q.2)]
    · have := arTy_lt q2; rw [m1, hK] at q1; omega
    · rw [m1, hK] at q1; omega
  · exact hR.keep (e3 b hb) (by rw [m1]) (by rw [m2]) (fun ty j => hv ty b j (fun q => hb q.1))
theorem mRep.sto (hR : mRep G M H) {a t j : Nat} {ty : FieldType} {v : Value} (hty : arTy[t]? = some ty) (hK : mK M a = 30 + t)
    (e1 : H'[a]? = some ((arrV (gA G t) (mN M a) (fun j => fV ty M a j)).setSlot j v)) (e2 : H'.size = H.size) (e3 : ∀ q, q ≠ a → H'[q]? = H[q]?)
    (m1 : mK M' = mK M) (m2 : mN M' = mN M) (m3 : mZ M' = mZ M) (hO : mOk M') (hv : ∀ ty b k, ¬ (b = a ∧ k = j) → fV ty M' b k = fV ty M b k) (hn : fV ty M' a j = v) : mRep G M' H' := by
  have hlt := arTy_lt hty
  obtain ⟨r1, r2, r3, r4, r5, r6, r7⟩ := hR
  have hR : mRep G M H := ⟨r1, r2, r3, r4, r5, r6, r7⟩
  obtain ⟨g1, g2, g3⟩ := (r7 a).2.1 t ty hK hty
  refine ⟨by rw [e2, m3]; exact r1, r2, by rw [m3]; exact r3, hO, fun q hq => by rw [e3 q (by have := r2.1; omega)]; exact r5 q hq, fun b hb => by rw [m1]; exact r6 b (by rw [← m3]; exact hb), fun b => ?_⟩
  by_cases hb : b = a
  · subst hb
    refine ⟨fun c' r' t' q1 q2 q3 => ?_, fun t' ty' q1 q2 => ?_, fun q1 => ?_⟩
    · have := vwCl_lt q2; rw [m1, hK] at q1; omega
    · have et : t' = t := by rw [m1, hK] at q1; omega
      subst et
      have ey : ty' = ty := Option.some.inj (q2.symm.trans hty)
      subst ey
      refine ⟨g1, by rw [m2]; exact g2, ?_⟩
      rw [e1, arrV_store, m2]
      congr 2
      funext k
      unfold updV
      by_cases hk : k = j
      · subst hk; simp [hn]
      · simp [hk, hv ty' b k (fun q => hk q.2)]
    · rw [m1, hK] at q1; omega
  · exact hR.keep (e3 b hb) (by rw [m1]) (by rw [m2]) (fun ty k => hv ty b k (fun q => hb q.1))
theorem mRep.own (hR : mRep G M H) {a : Nat} (h : gB G ≤ a) : mcv (vr a) = .ref a := if_neg (by have := hR.2.1.1; omega)
end MR
section HRules
variable {G : mG} {y : mY} {d pc : Nat} {L st : List mV} {M : mM} {Q : Option mV → mM → Prop}
theorem wm_get {c k idx a : Nat} {C : String} {T : u_T} {N : Nat} {t : Nat → FieldType} {v : mV} (hcl : vwCl[c]? = some (C, T, N)) (hty : vwTy[c]? = some t) (hin : ∀ w ∈ u_ws C T N, w ∈ lw_R) (hk : k < N) (hv : fV (t k) M a k = mcv v) (hl : Cond.fieldLink y.1.cls idx (T k).1 (T k).2.1 (T k).2.2.1 ∈ lw_R) (hd : decode y.2.1 pc = .ok (.getfield idx, 3)) (hK : mK M a = c + 1) (h : mWm G y d (pc + 3) L (v :: st) M Q) : mWm G y d pc L (vr a :: st) M Q :=
  wm_st (fun p e R s m args below meth co H locs cells slots ls Qf hA hR hL kk => by
    obtain ⟨hb1, cell, q1, q2, q3, q4⟩ := (hR.2.2.2.2.2.2 a).1 c _ t hK hcl hty
    obtain ⟨hx, hb, -, -, -, -, hown, hKK, hts, -⟩ := hA
    obtain ⟨hS, hfc, kC, hkC, hkind⟩ := hKK.1 c _ hcl
    obtain ⟨cf, kf, fi, f, hi, hsl⟩ := hS k hk
    show W p (gL G) e R s m args below meth co H locs cells slots Qf (F0 m pc ls (mcv (vr a) :: st.map mcv))
    rw [hR.own hb1]
    refine W.getf hx hb hown (hts _ hl) hi (u_facts hfc hkC (u_lays hts hin hk) hi).1 q1 (by rw [q3]; exact fun h => by cases h) (v := mcv v) ?_ rfl rfl hd kk
    rw [hsl, q4 k hk]
    exact congrArg some hv) h
theorem wm_getN {c k idx a : Nat} {host C : String} {T : u_T} {N : Nat} {t : Nat → FieldType} {v : mV} (hcl : vwCl[c]? = some (C, T, N)) (hty : vwTy[c]? = some t) (hin : ∀ w ∈ u_ws C T N, w ∈ lw_R) (hk : k < N) (hv : fV (t k) M a k = mcv v) (hl : Cond.fieldLinkNest y.1.cls idx (T k).1 (T k).2.1 (T k).2.2.1 host ∈ lw_R) (hd : decode y.2.1 pc = .ok (.getfield idx, 3)) (hK : mK M a = c + 1) (h : mWm G y d (pc + 3) L (v :: st) M Q) : mWm G y d pc L (vr a :: st) M Q :=
  wm_st (fun p e R s m args below meth co H locs cells slots ls Qf hA hR hL kk => by
    obtain ⟨hb1, cell, q1, q2, q3, q4⟩ := (hR.2.2.2.2.2.2 a).1 c _ t hK hcl hty
    obtain ⟨hx, hb, -, -, -, -, hown, hKK, hts, -⟩ := hA
    obtain ⟨hS, hfc, kC, hkC, hkind⟩ := hKK.1 c _ hcl
    obtain ⟨cf, kf, fi, f, hi, hsl⟩ := hS k hk
    show W p (gL G) e R s m args below meth co H locs cells slots Qf (F0 m pc ls (mcv (vr a) :: st.map mcv))
    rw [hR.own hb1]
    refine va_Wgetf hx hb hown (hts _ hl) hi (u_facts hfc hkC (u_lays hts hin hk) hi).1 q1 (by rw [q3]; exact fun h => by cases h) (v := mcv v) ?_ rfl rfl hd kk
    rw [hsl, q4 k hk]
    exact congrArg some hv) h
/-- a step that writes -/
theorem wm_wr {pc' : Nat} {st' : List mV} {M1 : mM} (hz : mZ M1 = mZ M) (hs1 : mS M1 = mS M) (hs : ∀ (p : Program) (e : Env) (R : Room) (s : State) (m : MethodId) (args : Array Value) (below : List Frame) (meth : Method) (c : Code) (H : Heap) (locs : List Loc) (cells slots : Nat) (ls : Array Slot) (Qf : State → Prop), mAt G y d p R s m args meth c → mRep G M H → (∀ q ∈ locs, mOwn G q.base) → mLs ls y.2.2.1 L → (∀ (H1 : Heap) (locs1 : List Loc), mRep G M1 H1 → (∀ q ∈ locs1, mOwn G q.base) → W p (gL G) e R s m args below meth c H1 locs1 cells slots Qf (F0 m pc' ls (st'.map mcv))) → W p (gL G) e R s m args below meth c H locs cells slots Qf (F0 m pc ls (st.map mcv))) (h : mWm G y d pc' L st' M1 Q) : mWm G y d pc L st M Q := by
  obtain ⟨r, M', ⟨h1, h2⟩, h3⟩ := h
  rw [hz, hs1] at h1
  refine ⟨r, M', ⟨h1, fun p e R s m args below meth c H locs cells slots ls hA hR hl hc hs' hL => hs p e R s m args below meth c H locs cells slots ls _ hA hR hl hL (fun H1 locs1 hR1 hl1 => ?_)⟩, h3⟩
  have := h2 p e R s m args below meth c H1 locs1 cells slots ls hA hR1 hl1 (by rw [hz]; exact hc) (by rw [hs1]; exact hs') hL
  rw [hz, hs1] at this
  exact this
theorem m_own1 {locs : List Loc} {a j : Nat} (hl : ∀ q ∈ locs, mOwn G q.base) (ha : gB G ≤ a) : ∀ q ∈ locs ++ [⟨a, j⟩], mOwn G q.base := t_lc hl ha
theorem wm_put {c k idx a : Nat} {C : String} {T : u_T} {N : Nat} {t : Nat → FieldType} {v : mV} {M1 : mM} (hcl : vwCl[c]? = some (C, T, N)) (hty : vwTy[c]? = some t) (hin : ∀ w ∈ u_ws C T N, w ∈ lw_R) (hpd : ∀ k, k < N → parseFieldDescriptor (T k).2.2.1 = some (t k)) (hnm : ∀ a, a < N → ∀ b, b < N → a ≠ b → (T a).2.1 ≠ (T b).2.1) (hk : k < N) (hfin : (T k).2.2.2 = false) (hl : Cond.fieldLink y.1.cls idx (T k).1 (T k).2.1 (T k).2.2.1 ∈ lw_R) (hn : narrow (t k) (mcv v) = mcv v) (hfit : fits (t k) (mcv v) = true)
    (m1 : mK M1 = mK M) (m2 : mN M1 = mN M) (m3 : mZ M1 = mZ M) (m4 : mS M1 = mS M) (hO : mOk M → mOk M1) (hv : ∀ ty b j, ¬ (b = a ∧ j = k) → fV ty M1 b j = fV ty M b j) (hnv : fV (t k) M1 a k = mcv v)
    (hd : decode y.2.1 pc = .ok (.putfield idx, 3)) (hK : mK M a = c + 1) (h : mWm G y d (pc + 3) L st M1 Q) : mWm G y d pc L (v :: vr a :: st) M Q :=
  wm_wr m3 m4 (fun p e R s m args below meth co H locs cells slots ls Qf hA hR hlo hL kk => by
    obtain ⟨hb1, cell, q1, q2, q3, q4⟩ := (hR.2.2.2.2.2.2 a).1 c _ t hK hcl hty
    obtain ⟨hx, hb, -, -, -, -, hown, hKK, hts, -⟩ := hA
    have hap := va_apart (own := y.1.cls) (args := args) hts hin t hpd hnm hKK hcl
    obtain ⟨hS, hfc, kC, hkC, hkind⟩ := hKK.1 c _ hcl
    obtain ⟨cf, kf, fi, f, hi, hsl⟩ := hS k hk
    have hlay := hts _ (hin _ (u_in_lay hk))
    unfold u_lay at hlay
    rw [if_neg (by rw [hfin]; decide)] at hlay
    have hst := (u_facts hfc hkC (u_lays hts hin hk) hi).1
    have h6 := u_store hfc hkC hkind hlay hi (hpd k hk) hn hfit
    show W p (gL G) e R s m args below meth co H locs cells slots Qf (F0 m pc ls (mcv v :: mcv (vr a) :: st.map mcv))
    rw [hR.own hb1]
    refine W.putK hx hb (f := f) ⟨hown, hts _ hl, ⟨_, _, _, hi⟩, hst⟩ (by rw [q2]; exact h6) q1 q3 (by rw [hsl]; exact k2_hasslot (q4 k hk)) rfl rfl hd fun H' e1 e2 e3 => ?_
    rw [hsl] at e1
    exact kk H' _ (hR.put hcl hty hk hK hap q1 e1 e2 e3 m1 m2 m3 (hO hR.2.2.2.1) hv hnv) (m_own1 hlo hb1)) h
theorem wm_putN {c k idx a : Nat} {host C : String} {T : u_T} {N : Nat} {t : Nat → FieldType} {v : mV} {M1 : mM} (hcl : vwCl[c]? = some (C, T, N)) (hty : vwTy[c]? = some t) (hin : ∀ w ∈ u_ws C T N, w ∈ lw_R) (hpd : ∀ k, k < N → parseFieldDescriptor (T k).2.2.1 = some (t k)) (hnm : ∀ a, a < N → ∀ b, b < N → a ≠ b → (T a).2.1 ≠ (T b).2.1) (hk : k < N) (hfin : (T k).2.2.2 = false) (hl : Cond.fieldLinkNest y.1.cls idx (T k).1 (T k).2.1 (T k).2.2.1 host ∈ lw_R) (hn : narrow (t k) (mcv v) = mcv v) (hfit : fits (t k) (mcv v) = true)
    (m1 : mK M1 = mK M) (m2 : mN M1 = mN M) (m3 : mZ M1 = mZ M) (m4 : mS M1 = mS M) (hO : mOk M → mOk M1) (hv : ∀ ty b j, ¬ (b = a ∧ j = k) → fV ty M1 b j = fV ty M b j) (hnv : fV (t k) M1 a k = mcv v)
    (hd : decode y.2.1 pc = .ok (.putfield idx, 3)) (hK : mK M a = c + 1) (h : mWm G y d (pc + 3) L st M1 Q) : mWm G y d pc L (v :: vr a :: st) M Q :=
  wm_wr m3 m4 (fun p e R s m args below meth co H locs cells slots ls Qf hA hR hlo hL kk => by
    obtain ⟨hb1, cell, q1, q2, q3, q4⟩ := (hR.2.2.2.2.2.2 a).1 c _ t hK hcl hty
    obtain ⟨hx, hb, -, -, -, -, hown, hKK, hts, -⟩ := hA
    have hap := va_apart (own := y.1.cls) (args := args) hts hin t hpd hnm hKK hcl
    obtain ⟨hS, hfc, kC, hkC, hkind⟩ := hKK.1 c _ hcl
    obtain ⟨cf, kf, fi, f, hi, hsl⟩ := hS k hk
    have hlay := hts _ (hin _ (u_in_lay hk))
    unfold u_lay at hlay
    rw [if_neg (by rw [hfin]; decide)] at hlay
    have hst := (u_facts hfc hkC (u_lays hts hin hk) hi).1
    have h6 := u_store hfc hkC hkind hlay hi (hpd k hk) hn hfit
    show W p (gL G) e R s m args below meth co H locs cells slots Qf (F0 m pc ls (mcv v :: mcv (vr a) :: st.map mcv))
    rw [hR.own hb1]
    refine va_WputK hx hb (f := f) hown (hts _ hl) hi hst (by rw [q2]; exact h6) q1 q3 (by rw [hsl]; exact k2_hasslot (q4 k hk)) rfl rfl hd fun H' e1 e2 e3 => ?_
    rw [hsl] at e1
    exact kk H' _ (hR.put hcl hty hk hK hap q1 e1 e2 e3 m1 m2 m3 (hO hR.2.2.2.1) hv hnv) (m_own1 hlo hb1)) h
theorem wm_putF {c k idx a : Nat} {C : String} {T : u_T} {N : Nat} {t : Nat → FieldType} {v : mV} {M1 : mM} (hcl : vwCl[c]? = some (C, T, N)) (hty : vwTy[c]? = some t) (hin : ∀ w ∈ u_ws C T N, w ∈ lw_R) (hpd : ∀ k, k < N → parseFieldDescriptor (T k).2.2.1 = some (t k)) (hnm : ∀ a, a < N → ∀ b, b < N → a ≠ b → (T a).2.1 ≠ (T b).2.1) (hk : k < N) (hfin : (T k).2.2.2 = true) (hini : y.1.name = "<init>") (hdecl : (T k).1 = y.1.cls) (hl : Cond.fieldLink y.1.cls idx (T k).1 (T k).2.1 (T k).2.2.1 ∈ lw_R) (hn : narrow (t k) (mcv v) = mcv v) (hfit : fits (t k) (mcv v) = true)
    (m1 : mK M1 = mK M) (m2 : mN M1 = mN M) (m3 : mZ M1 = mZ M) (m4 : mS M1 = mS M) (hO : mOk M → mOk M1) (hv : ∀ ty b j, ¬ (b = a ∧ j = k) → fV ty M1 b j = fV ty M b j) (hnv : fV (t k) M1 a k = mcv v)
    (hd : decode y.2.1 pc = .ok (.putfield idx, 3)) (hK : mK M a = c + 1) (h : mWm G y d (pc + 3) L st M1 Q) : mWm G y d pc L (v :: vr a :: st) M Q :=
  wm_wr m3 m4 (fun p e R s m args below meth co H locs cells slots ls Qf hA hR hlo hL kk => by
    obtain ⟨hb1, cell, q1, q2, q3, q4⟩ := (hR.2.2.2.2.2.2 a).1 c _ t hK hcl hty
    obtain ⟨hx, hb, -, -, -, hnam, hown, hKK, hts, -⟩ := hA
    have hap := va_apart (own := y.1.cls) (args := args) hts hin t hpd hnm hKK hcl
    obtain ⟨hS, hfc, kC, hkC, hkind⟩ := hKK.1 c _ hcl
    obtain ⟨cf, kf, fi, f, hi, hsl⟩ := hS k hk
    have hlay := hts _ (hin _ (u_in_lay hk))
    unfold u_lay at hlay
    rw [if_pos hfin] at hlay
    have hst := (u_facts hfc hkC (u_lays hts hin hk) hi).1
    have hcf : m.cls = cf := by
      obtain ⟨_, _, c', _, _, _, -, -, hf', -, -, -, hown2, -⟩ := Cond.laysFinal_spec hlay
      have e1 : c' = cf := by have := hi.symm.trans hf'; simp at this; exact this.1.symm
      rw [hdecl] at hown2
      rw [← e1]; exact Option.some.inj (hown.symm.trans hown2)
    have h6 := u_fits hfc hkC hkind (Or.inr hlay) hi (hpd k hk) hn hfit
    show W p (gL G) e R s m args below meth co H locs cells slots Qf (F0 m pc ls (mcv v :: mcv (vr a) :: st.map mcv))
    rw [hR.own hb1]
    refine W.putFinK hx hb hown (hts _ hl) hi hst hcf (hnam.trans hini) (by rw [q2]; exact h6) q1 q3 (by rw [hsl]; exact k2_hasslot (q4 k hk)) rfl rfl hd fun H' e1 e2 e3 => ?_
    rw [hsl] at e1
    exact kk H' _ (hR.put hcl hty hk hK hap q1 e1 e2 e3 m1 m2 m3 (hO hR.2.2.2.1) hv hnv) (m_own1 hlo hb1)) h
end HRules
