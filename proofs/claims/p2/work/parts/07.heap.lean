section
/-! THE FLAT MACHINE'S RULES for the heap. -/
theorem mOk_UI {M : mM} {a j : Nat} {x : Int} (h : mOk M) (hx : i32 x) : mOk (mUI M a j x) := by
  intro b k
  refine ⟨?_, (h b k).2⟩
  rw [mI_UI]
  split
  · exact hx
  · exact (h b k).1
theorem mOk_UL {M : mM} {a j : Nat} {x : Int} (h : mOk M) (hx : i64 x) : mOk (mUL M a j x) := by
  intro b k
  refine ⟨(h b k).1, ?_⟩
  rw [mL_UL]
  split
  · exact hx
  · exact (h b k).2
theorem mOk_UR {M : mM} {a j r : Nat} (h : mOk M) : mOk (mUR M a j r) := h
theorem mOk_New {M : mM} {k n c : Nat} (h : mOk M) : mOk (mNew M k n c) := by
  intro b j
  rw [mI_New, mL_New]
  split
  · exact ⟨⟨by decide, by decide⟩, ⟨by decide, by decide⟩⟩
  · exact h b j
theorem vwCl_lt {c : Nat} {r : vw_C} (h : vwCl[c]? = some r) : c < 20 := (List.getElem?_eq_some_iff.mp h).1
theorem arTy_lt {t : Nat} {ty : FieldType} (h : arTy[t]? = some ty) : t < 7 := (List.getElem?_eq_some_iff.mp h).1
theorem fV_UI {M : mM} {a k b j : Nat} {x : Int} (ty : FieldType) (h : ¬ (b = a ∧ j = k)) : fV ty (mUI M a k x) b j = fV ty M b j := by
  unfold fV
  split <;> try rfl
  rw [mI_UI, if_neg h]
theorem fV_UL {M : mM} {a k b j : Nat} {x : Int} (ty : FieldType) (h : ¬ (b = a ∧ j = k)) : fV ty (mUL M a k x) b j = fV ty M b j := by
  unfold fV
  split <;> try rfl
  rw [mL_UL, if_neg h]
theorem fV_UR {M : mM} {a k b j x : Nat} (ty : FieldType) (h : ¬ (b = a ∧ j = k)) : fV ty (mUR M a k x) b j = fV ty M b j := by
  unfold fV
  split <;> try rfl
  · rw [mR_UR, if_neg h]
  · rw [mR_UR, if_neg h]
theorem fV_New {M : mM} {k n c b j : Nat} (ty : FieldType) (h : ¬ b = mZ M) : fV ty (mNew M k n c) b j = fV ty M b j := by
  unfold fV
  split
  · rw [mL_New, if_neg h]
  · rw [mR_New, if_neg h]
  · rw [mR_New, if_neg h]
  · rw [mI_New, if_neg h]
section MR
variable {G : mG} {M M' : mM} {H H' : Heap}
/-- what another cell's change leaves -/
theorem mRep.keep (hR : mRep G M H) {b : Nat} (e : H'[b]? = H[b]?) (hk : mK M' b = mK M b) (hn : mN M' b = mN M b) (hv : ∀ ty j, fV ty M' b j = fV ty M b j) : mRepO G M' H' b ∧ mRepA G M' H' b ∧ mRepP G M' H' b := by
  obtain ⟨h1, h2, h3⟩ := hR.2.2.2.2.2.2 b
  refine ⟨fun c r t q1 q2 q3 => ?_, fun t ty q1 q2 => ?_, fun q1 => ?_⟩
  · obtain ⟨g1, g2⟩ := h1 c r t (by rw [← hk]; exact q1) q2 q3
    exact ⟨g1, (g2.kept e).to (fun k _ => (hv _ _).symm)⟩
  · obtain ⟨g1, g2, g3⟩ := h2 t ty (by rw [← hk]; exact q1) q2
    refine ⟨g1, by rw [hn]; exact g2, ?_⟩
    rw [e, g3, hn]
    congr 2
    funext j
    exact (hv ty j).symm
  · obtain ⟨g1, g2, cell, g3, g4, g5, g6, g7⟩ := h3 (by rw [← hk]; exact q1)
    refine ⟨g1, by rw [hn]; exact g2, cell, by rw [e]; exact g3, g4, g5, by rw [hn]; exact g6, fun j hj => ?_⟩
    rw [hn] at hj
    rw [g7 j hj]
    have := hv .int j
    exact congrArg some this.symm
theorem mRep.put (hR : mRep G M H) {a c k : Nat} {C : String} {T : u_T} {N : Nat} {t : Nat → FieldType} {v : Value} (hcl : vwCl[c]? = some (C, T, N)) (hty : vwTy[c]? = some t) (hk : k < N) (hK : mK M a = c + 1) (hap : ∀ x z, x < N → z < N → x ≠ z → (gD G).2 c x ≠ (gD G).2 c z)
    {cell : Cell} (hc : H[a]? = some cell) (e1 : H'[a]? = some (cell.setSlot ((gD G).2 c k) v)) (e2 : H'.size = H.size) (e3 : ∀ q, q ≠ a → H'[q]? = H[q]?)
    (m1 : mK M' = mK M) (m2 : mN M' = mN M) (m3 : mZ M' = mZ M) (hO : mOk M') (hv : ∀ ty b j, ¬ (b = a ∧ j = k) → fV ty M' b j = fV ty M b j) (hn : fV (t k) M' a k = v) : mRep G M' H' := by
  have hlt := vwCl_lt hcl
  obtain ⟨r1, r2, r3, r4, r5, r6, r7⟩ := hR
  have hR : mRep G M H := ⟨r1, r2, r3, r4, r5, r6, r7⟩
  obtain ⟨g1, cell', g2, g3, g4, g5⟩ := (r7 a).1 c _ t hK hcl hty
  have e9 : cell' = cell := Option.some.inj (g2.symm.trans hc)
  subst e9
  refine ⟨by rw [e2, m3]; exact r1, r2, by rw [m3]; exact r3, hO, fun q hq => by rw [e3 q (by have := r2.1; omega)]; exact r5 q hq, fun b hb => by rw [m1]; exact r6 b (by rw [← m3]; exact hb), fun b => ?_⟩
  by_cases hb : b = a
  · subst hb
    refine ⟨fun c' r' t' q1 q2 q3 => ?_, fun t' ty' q1 q2 => ?_, fun q1 => ?_⟩
    · have ec : c' = c := by rw [m1, hK] at q1; omega
      subst ec
      have er : r' = (C, T, N) := Option.some.inj (q2.symm.trans hcl)
      subst er
      have et : t' = t := Option.some.inj (q3.symm.trans hty)
      subst et
      refine ⟨g1, _, e1, g3, g4, fun j hj => ?_⟩
      rw [t_set g5 hap hk v j hj]
      unfold updV
      by_cases hjk : j = k
      · subst hjk; simp [hn]
      · simp [hjk, hv (t' j) b j (fun q => hjk q.2)]
    · have := arTy_lt q2; rw [m1, hK] at q1; omega
    · rw [m1, hK] at q1; omega
  · exact hR.keep (e3 b hb) (by rw [m1]) (by rw [m2]) (fun ty j => hv ty b j (fun q => hb q.1))
theorem mRep.sto (hR : mRep G M H) {a t j : Nat} {ty : FieldType} {v : Value} (hty : arTy[t]? = some ty) (hK : mK M a = 30 + t)
    (e1 : H'[a]? = some ((arrV (gA G t) (mN M a) (fun j => fV ty M a j)).setSlot j v)) (e2 : H'.size = H.size) (e3 : ∀ q, q ≠ a → H'[q]? = H[q]?)
    (m1 : mK M' = mK M) (m2 : mN M' = mN M) (m3 : mZ M' = mZ M) (hO : mOk M') (hv : ∀ ty b k, ¬ (b = a ∧ k = j) → fV ty M' b k = fV ty M b k) (hn : fV ty M' a j = v) : mRep G M' H' := by
  have hlt := arTy_lt hty
  obtain ⟨r1, r2, r3, r4, r5, r6, r7⟩ := hR
  have hR : mRep G M H := ⟨r1, r2, r3, r4, r5, r6, r7⟩
  obtain ⟨g1, g2, g3⟩ := (r7 a).2.1 t ty hK hty
  refine ⟨by rw [e2, m3]; exact r1, r2, by rw [m3]; exact r3, hO, fun q hq => by rw [e3 q (by have := r2.1; omega)]; exact r5 q hq, fun b hb => by rw [m1]; exact r6 b (by rw [← m3]; exact hb), fun b => ?_⟩
  by_cases hb : b = a
  · subst hb
    refine ⟨fun c' r' t' q1 q2 q3 => ?_, fun t' ty' q1 q2 => ?_, fun q1 => ?_⟩
    · have := vwCl_lt q2; rw [m1, hK] at q1; omega
    · have et : t' = t := by rw [m1, hK] at q1; omega
      subst et
      have ey : ty' = ty := Option.some.inj (q2.symm.trans hty)
      subst ey
      refine ⟨g1, by rw [m2]; exact g2, ?_⟩
      rw [e1, arrV_store, m2]
      congr 2
      funext k
      unfold updV
      by_cases hk : k = j
      · subst hk; simp [hn]
      · simp [hk, hv ty' b k (fun q => hk q.2)]
    · rw [m1, hK] at q1; omega
  · exact hR.keep (e3 b hb) (by rw [m1]) (by rw [m2]) (fun ty k => hv ty b k (fun q => hb q.1))
theorem mRep.own (hR : mRep G M H) {a : Nat} (h : gB G ≤ a) : mcv (vr a) = .ref a := if_neg (by have := hR.2.1.1; omega)
end MR
section HRules
variable {G : mG} {y : mY} {d pc : Nat} {L st : List mV} {M : mM} {Q : Option mV → mM → Prop}
theorem wm_get {c k idx a : Nat} {C : String} {T : u_T} {N : Nat} {t : Nat → FieldType} {v : mV} (hcl : vwCl[c]? = some (C, T, N)) (hty : vwTy[c]? = some t) (hin : ∀ w ∈ u_ws C T N, w ∈ lw_R) (hk : k < N) (hv : fV (t k) M a k = mcv v) (hl : Cond.fieldLink y.1.cls idx (T k).1 (T k).2.1 (T k).2.2.1 ∈ lw_R) (hd : decode y.2.1 pc = .ok (.getfield idx, 3)) (hK : mK M a = c + 1) (h : mWm G y d (pc + 3) L (v :: st) M Q) : mWm G y d pc L (vr a :: st) M Q :=
  wm_st (fun p e R s m args below meth co H locs cells slots ls Qf hA hR hL kk => by
    obtain ⟨hb1, cell, q1, q2, q3, q4⟩ := (hR.2.2.2.2.2.2 a).1 c _ t hK hcl hty
    obtain ⟨hx, hb, -, -, -, -, hown, hKK, hts, -⟩ := hA
    obtain ⟨hS, hfc, kC, hkC, hkind⟩ := hKK.1 c _ hcl
    obtain ⟨cf, kf, fi, f, hi, hsl⟩ := hS k hk
    show W p (gL G) e R s m args below meth co H locs cells slots Qf (F0 m pc ls (mcv (vr a) :: st.map mcv))
    rw [hR.own hb1]
    refine W.getf hx hb hown (hts _ hl) hi (u_facts hfc hkC (u_lays hts hin hk) hi).1 q1 (by rw [q3]; exact fun h => by cases h) (v := mcv v) ?_ rfl rfl hd kk
    rw [hsl, q4 k hk]
    exact congrArg some hv) h
theorem wm_getN {c k idx a : Nat} {host C : String} {T : u_T} {N : Nat} {t : Nat → FieldType} {v : mV} (hcl : vwCl[c]? = some (C, T, N)) (hty : vwTy[c]? = some t) (hin : ∀ w ∈ u_ws C T N, w ∈ lw_R) (hk : k < N) (hv : fV (t k) M a k = mcv v) (hl : Cond.fieldLinkNest y.1.cls idx (T k).1 (T k).2.1 (T k).2.2.1 host ∈ lw_R) (hd : decode y.2.1 pc = .ok (.getfield idx, 3)) (hK : mK M a = c + 1) (h : mWm G y d (pc + 3) L (v :: st) M Q) : mWm G y d pc L (vr a :: st) M Q :=
  wm_st (fun p e R s m args below meth co H locs cells slots ls Qf hA hR hL kk => by
    obtain ⟨hb1, cell, q1, q2, q3, q4⟩ := (hR.2.2.2.2.2.2 a).1 c _ t hK hcl hty
    obtain ⟨hx, hb, -, -, -, -, hown, hKK, hts, -⟩ := hA
    obtain ⟨hS, hfc, kC, hkC, hkind⟩ := hKK.1 c _ hcl
    obtain ⟨cf, kf, fi, f, hi, hsl⟩ := hS k hk
    show W p (gL G) e R s m args below meth co H locs cells slots Qf (F0 m pc ls (mcv (vr a) :: st.map mcv))
    rw [hR.own hb1]
    refine va_Wgetf hx hb hown (hts _ hl) hi (u_facts hfc hkC (u_lays hts hin hk) hi).1 q1 (by rw [q3]; exact fun h => by cases h) (v := mcv v) ?_ rfl rfl hd kk
    rw [hsl, q4 k hk]
    exact congrArg some hv) h
/-- a step that writes -/
theorem wm_wr {pc' : Nat} {st' : List mV} {M1 : mM} (hz : mZ M1 = mZ M) (hs1 : mS M1 = mS M) (hs : ∀ (p : Program) (e : Env) (R : Room) (s : State) (m : MethodId) (args : Array Value) (below : List Frame) (meth : Method) (c : Code) (H : Heap) (locs : List Loc) (cells slots : Nat) (ls : Array Slot) (Qf : State → Prop), mAt G y d p R s m args meth c → mRep G M H → (∀ q ∈ locs, mOwn G q.base) → mLs ls y.2.2.1 L → (∀ (H1 : Heap) (locs1 : List Loc), mRep G M1 H1 → (∀ q ∈ locs1, mOwn G q.base) → W p (gL G) e R s m args below meth c H1 locs1 cells slots Qf (F0 m pc' ls (st'.map mcv))) → W p (gL G) e R s m args below meth c H locs cells slots Qf (F0 m pc ls (st.map mcv))) (h : mWm G y d pc' L st' M1 Q) : mWm G y d pc L st M Q := by
  obtain ⟨r, M', ⟨h1, h2⟩, h3⟩ := h
  rw [hz, hs1] at h1
  refine ⟨r, M', ⟨h1, fun p e R s m args below meth c H locs cells slots ls hA hR hl hc hs' hL => hs p e R s m args below meth c H locs cells slots ls _ hA hR hl hL (fun H1 locs1 hR1 hl1 => ?_)⟩, h3⟩
  have := h2 p e R s m args below meth c H1 locs1 cells slots ls hA hR1 hl1 (by rw [hz]; exact hc) (by rw [hs1]; exact hs') hL
  rw [hz, hs1] at this
  exact this
theorem m_own1 {locs : List Loc} {a j : Nat} (hl : ∀ q ∈ locs, mOwn G q.base) (ha : gB G ≤ a) : ∀ q ∈ locs ++ [⟨a, j⟩], mOwn G q.base := t_lc hl ha
theorem wm_put {c k idx a : Nat} {C : String} {T : u_T} {N : Nat} {t : Nat → FieldType} {v : mV} {M1 : mM} (hcl : vwCl[c]? = some (C, T, N)) (hty : vwTy[c]? = some t) (hin : ∀ w ∈ u_ws C T N, w ∈ lw_R) (hpd : ∀ k, k < N → parseFieldDescriptor (T k).2.2.1 = some (t k)) (hnm : ∀ a, a < N → ∀ b, b < N → a ≠ b → (T a).2.1 ≠ (T b).2.1) (hk : k < N) (hfin : (T k).2.2.2 = false) (hl : Cond.fieldLink y.1.cls idx (T k).1 (T k).2.1 (T k).2.2.1 ∈ lw_R) (hn : narrow (t k) (mcv v) = mcv v) (hfit : fits (t k) (mcv v) = true)
    (m1 : mK M1 = mK M) (m2 : mN M1 = mN M) (m3 : mZ M1 = mZ M) (m4 : mS M1 = mS M) (hO : mOk M → mOk M1) (hv : ∀ ty b j, ¬ (b = a ∧ j = k) → fV ty M1 b j = fV ty M b j) (hnv : fV (t k) M1 a k = mcv v)
    (hd : decode y.2.1 pc = .ok (.putfield idx, 3)) (hK : mK M a = c + 1) (h : mWm G y d (pc + 3) L st M1 Q) : mWm G y d pc L (v :: vr a :: st) M Q :=
  wm_wr m3 m4 (fun p e R s m args below meth co H locs cells slots ls Qf hA hR hlo hL kk => by
    obtain ⟨hb1, cell, q1, q2, q3, q4⟩ := (hR.2.2.2.2.2.2 a).1 c _ t hK hcl hty
    obtain ⟨hx, hb, -, -, -, -, hown, hKK, hts, -⟩ := hA
    have hap := va_apart (own := y.1.cls) (args := args) hts hin t hpd hnm hKK hcl
    obtain ⟨hS, hfc, kC, hkC, hkind⟩ := hKK.1 c _ hcl
    obtain ⟨cf, kf, fi, f, hi, hsl⟩ := hS k hk
    have hlay := hts _ (hin _ (u_in_lay hk))
    unfold u_lay at hlay
    rw [if_neg (by rw [hfin]; decide)] at hlay
    have hst := (u_facts hfc hkC (u_lays hts hin hk) hi).1
    have h6 := u_store hfc hkC hkind hlay hi (hpd k hk) hn hfit
    show W p (gL G) e R s m args below meth co H locs cells slots Qf (F0 m pc ls (mcv v :: mcv (vr a) :: st.map mcv))
    rw [hR.own hb1]
    refine W.putK hx hb (f := f) ⟨hown, hts _ hl, ⟨_, _, _, hi⟩, hst⟩ (by rw [q2]; exact h6) q1 q3 (by rw [hsl]; exact k2_hasslot (q4 k hk)) rfl rfl hd fun H' e1 e2 e3 => ?_
    rw [hsl] at e1
    exact kk H' _ (hR.put hcl hty hk hK hap q1 e1 e2 e3 m1 m2 m3 (hO hR.2.2.2.1) hv hnv) (m_own1 hlo hb1)) h
theorem wm_putN {c k idx a : Nat} {host C : String} {T : u_T} {N : Nat} {t : Nat → FieldType} {v : mV} {M1 : mM} (hcl : vwCl[c]? = some (C, T, N)) (hty : vwTy[c]? = some t) (hin : ∀ w ∈ u_ws C T N, w ∈ lw_R) (hpd : ∀ k, k < N → parseFieldDescriptor (T k).2.2.1 = some (t k)) (hnm : ∀ a, a < N → ∀ b, b < N → a ≠ b → (T a).2.1 ≠ (T b).2.1) (hk : k < N) (hfin : (T k).2.2.2 = false) (hl : Cond.fieldLinkNest y.1.cls idx (T k).1 (T k).2.1 (T k).2.2.1 host ∈ lw_R) (hn : narrow (t k) (mcv v) = mcv v) (hfit : fits (t k) (mcv v) = true)
    (m1 : mK M1 = mK M) (m2 : mN M1 = mN M) (m3 : mZ M1 = mZ M) (m4 : mS M1 = mS M) (hO : mOk M → mOk M1) (hv : ∀ ty b j, ¬ (b = a ∧ j = k) → fV ty M1 b j = fV ty M b j) (hnv : fV (t k) M1 a k = mcv v)
    (hd : decode y.2.1 pc = .ok (.putfield idx, 3)) (hK : mK M a = c + 1) (h : mWm G y d (pc + 3) L st M1 Q) : mWm G y d pc L (v :: vr a :: st) M Q :=
  wm_wr m3 m4 (fun p e R s m args below meth co H locs cells slots ls Qf hA hR hlo hL kk => by
    obtain ⟨hb1, cell, q1, q2, q3, q4⟩ := (hR.2.2.2.2.2.2 a).1 c _ t hK hcl hty
    obtain ⟨hx, hb, -, -, -, -, hown, hKK, hts, -⟩ := hA
    have hap := va_apart (own := y.1.cls) (args := args) hts hin t hpd hnm hKK hcl
    obtain ⟨hS, hfc, kC, hkC, hkind⟩ := hKK.1 c _ hcl
    obtain ⟨cf, kf, fi, f, hi, hsl⟩ := hS k hk
    have hlay := hts _ (hin _ (u_in_lay hk))
    unfold u_lay at hlay
    rw [if_neg (by rw [hfin]; decide)] at hlay
    have hst := (u_facts hfc hkC (u_lays hts hin hk) hi).1
    have h6 := u_store hfc hkC hkind hlay hi (hpd k hk) hn hfit
    show W p (gL G) e R s m args below meth co H locs cells slots Qf (F0 m pc ls (mcv v :: mcv (vr a) :: st.map mcv))
    rw [hR.own hb1]
    refine va_WputK hx hb (f := f) hown (hts _ hl) hi hst (by rw [q2]; exact h6) q1 q3 (by rw [hsl]; exact k2_hasslot (q4 k hk)) rfl rfl hd fun H' e1 e2 e3 => ?_
    rw [hsl] at e1
    exact kk H' _ (hR.put hcl hty hk hK hap q1 e1 e2 e3 m1 m2 m3 (hO hR.2.2.2.1) hv hnv) (m_own1 hlo hb1)) h
theorem wm_putF {c k idx a : Nat} {C : String} {T : u_T} {N : Nat} {t : Nat → FieldType} {v : mV} {M1 : mM} (hcl : vwCl[c]? = some (C, T, N)) (hty : vwTy[c]? = some t) (hin : ∀ w ∈ u_ws C T N, w ∈ lw_R) (hpd : ∀ k, k < N → parseFieldDescriptor (T k).2.2.1 = some (t k)) (hnm : ∀ a, a < N → ∀ b, b < N → a ≠ b → (T a).2.1 ≠ (T b).2.1) (hk : k < N) (hfin : (T k).2.2.2 = true) (hini : y.1.name = "<init>") (hdecl : (T k).1 = y.1.cls) (hl : Cond.fieldLink y.1.cls idx (T k).1 (T k).2.1 (T k).2.2.1 ∈ lw_R) (hn : narrow (t k) (mcv v) = mcv v) (hfit : fits (t k) (mcv v) = true)
    (m1 : mK M1 = mK M) (m2 : mN M1 = mN M) (m3 : mZ M1 = mZ M) (m4 : mS M1 = mS M) (hO : mOk M → mOk M1) (hv : ∀ ty b j, ¬ (b = a ∧ j = k) → fV ty M1 b j = fV ty M b j) (hnv : fV (t k) M1 a k = mcv v)
    (hd : decode y.2.1 pc = .ok (.putfield idx, 3)) (hK : mK M a = c + 1) (h : mWm G y d (pc + 3) L st M1 Q) : mWm G y d pc L (v :: vr a :: st) M Q :=
  wm_wr m3 m4 (fun p e R s m args below meth co H locs cells slots ls Qf hA hR hlo hL kk => by
    obtain ⟨hb1, cell, q1, q2, q3, q4⟩ := (hR.2.2.2.2.2.2 a).1 c _ t hK hcl hty
    obtain ⟨hx, hb, -, -, -, hnam, hown, hKK, hts, -⟩ := hA
    have hap := va_apart (own := y.1.cls) (args := args) hts hin t hpd hnm hKK hcl
    obtain ⟨hS, hfc, kC, hkC, hkind⟩ := hKK.1 c _ hcl
    obtain ⟨cf, kf, fi, f, hi, hsl⟩ := hS k hk
    have hlay := hts _ (hin _ (u_in_lay hk))
    unfold u_lay at hlay
    rw [if_pos hfin] at hlay
    have hst := (u_facts hfc hkC (u_lays hts hin hk) hi).1
    have hcf : m.cls = cf := by
      obtain ⟨_, _, c', _, _, _, -, -, hf', -, -, -, hown2, -⟩ := Cond.laysFinal_spec hlay
      have e1 : c' = cf := by have := hi.symm.trans hf'; simp at this; exact this.1.symm
      rw [hdecl] at hown2
      rw [← e1]; exact Option.some.inj (hown.symm.trans hown2)
    have h6 := u_fits hfc hkC hkind (Or.inr hlay) hi (hpd k hk) hn hfit
    show W p (gL G) e R s m args below meth co H locs cells slots Qf (F0 m pc ls (mcv v :: mcv (vr a) :: st.map mcv))
    rw [hR.own hb1]
    refine W.putFinK hx hb hown (hts _ hl) hi hst hcf (hnam.trans hini) (by rw [q2]; exact h6) q1 q3 (by rw [hsl]; exact k2_hasslot (q4 k hk)) rfl rfl hd fun H' e1 e2 e3 => ?_
    rw [hsl] at e1
    exact kk H' _ (hR.put hcl hty hk hK hap q1 e1 e2 e3 m1 m2 m3 (hO hR.2.2.2.1) hv hnv) (m_own1 hlo hb1)) h
end HRules
end
section
/-! THE FLAT MACHINE'S RULES for arrays, new cells, ends and calls. -/
section ARules
variable {G : mG} {y : mY} {d pc : Nat} {L st : List mV} {M : mM} {Q : Option mV → mM → Prop}
theorem wm_iald {a : Nat} {i : Int} (hd : decode y.2.1 pc = .ok (.iaload, 1)) (hK : mK M a = 30) (hi : 0 ≤ i ∧ i < mN M a) (h : mWm G y d (pc + 1) L (vi (mI M a i.toNat) :: st) M Q) : mWm G y d pc L (vi i :: vr a :: st) M Q :=
  wm_st (fun p e R s m args below meth co H locs cells slots ls Qf hA hR hL kk => by
    obtain ⟨g1, g2, g3⟩ := (hR.2.2.2.2.2.2 a).2.1 0 .int hK rfl
    obtain ⟨hx, hb, -, -, -, -, hown, hKK, hts, -⟩ := hA
    have hi3 : i32 i := ⟨by omega, by omega⟩
    show W p (gL G) e R s m args below meth co H locs cells slots Qf (F0 m pc ls (.int (Int32.ofInt i) :: mcv (vr a) :: st.map mcv))
    rw [hR.own g1]
    exact W.iald (v := mcv (vi (mI M a i.toNat))) hx hb g3 ((hKK.2 0 _ rfl).1 _ _) (fun q => by cases q) (by rw [arrV_size]; exact i32_in hi g2) (by rw [i32_clamp hi3, arrV_read _ _ (by omega)]; rfl) rfl rfl hd kk) h
theorem wm_zald {a : Nat} {i : Int} (hd : decode y.2.1 pc = .ok (.baload, 1)) (hK : mK M a = 31) (hi : 0 ≤ i ∧ i < mN M a) (h : mWm G y d (pc + 1) L (vi (mI M a i.toNat) :: st) M Q) : mWm G y d pc L (vi i :: vr a :: st) M Q :=
  wm_st (fun p e R s m args below meth co H locs cells slots ls Qf hA hR hL kk => by
    obtain ⟨g1, g2, g3⟩ := (hR.2.2.2.2.2.2 a).2.1 1 .boolean hK rfl
    obtain ⟨hx, hb, -, -, -, -, hown, hKK, hts, -⟩ := hA
    have hi3 : i32 i := ⟨by omega, by omega⟩
    show W p (gL G) e R s m args below meth co H locs cells slots Qf (F0 m pc ls (.int (Int32.ofInt i) :: mcv (vr a) :: st.map mcv))
    rw [hR.own g1]
    exact W.zald (v := mcv (vi (mI M a i.toNat))) hx hb g3 ((hKK.2 1 _ rfl).1 _ _) (fun q => by cases q) (by rw [arrV_size]; exact i32_in hi g2) (by rw [i32_clamp hi3, arrV_read _ _ (by omega)]; rfl) rfl rfl hd kk) h
theorem wm_cald {a : Nat} {i : Int} (hd : decode y.2.1 pc = .ok (.caload, 1)) (hK : mK M a = 32) (hi : 0 ≤ i ∧ i < mN M a) (h : mWm G y d (pc + 1) L (vi (mI M a i.toNat) :: st) M Q) : mWm G y d pc L (vi i :: vr a :: st) M Q :=
  wm_st (fun p e R s m args below meth co H locs cells slots ls Qf hA hR hL kk => by
    obtain ⟨g1, g2, g3⟩ := (hR.2.2.2.2.2.2 a).2.1 2 .char hK rfl
    obtain ⟨hx, hb, -, -, -, -, hown, hKK, hts, -⟩ := hA
    have hi3 : i32 i := ⟨by omega, by omega⟩
    show W p (gL G) e R s m args below meth co H locs cells slots Qf (F0 m pc ls (.int (Int32.ofInt i) :: mcv (vr a) :: st.map mcv))
    rw [hR.own g1]
    exact W.cald (v := mcv (vi (mI M a i.toNat))) hx hb g3 ((hKK.2 2 _ rfl).1 _ _) (fun q => by cases q) (by rw [arrV_size]; exact i32_in hi g2) (by rw [i32_clamp hi3, arrV_read _ _ (by omega)]; rfl) rfl rfl hd kk) h
theorem wm_lald {a : Nat} {i : Int} (hd : decode y.2.1 pc = .ok (.laload, 1)) (hK : mK M a = 33) (hi : 0 ≤ i ∧ i < mN M a) (h : mWm G y d (pc + 1) L (vl (mL M a i.toNat) :: st) M Q) : mWm G y d pc L (vi i :: vr a :: st) M Q :=
  wm_st (fun p e R s m args below meth co H locs cells slots ls Qf hA hR hL kk => by
    obtain ⟨g1, g2, g3⟩ := (hR.2.2.2.2.2.2 a).2.1 3 .long hK rfl
    obtain ⟨hx, hb, -, -, -, -, hown, hKK, hts, -⟩ := hA
    have hi3 : i32 i := ⟨by omega, by omega⟩
    show W p (gL G) e R s m args below meth co H locs cells slots Qf (F0 m pc ls (.int (Int32.ofInt i) :: mcv (vr a) :: st.map mcv))
    rw [hR.own g1]
    exact W.lald (v := mcv (vl (mL M a i.toNat))) hx hb g3 ((hKK.2 3 _ rfl).1 _ _) (fun q => by cases q) (by rw [arrV_size]; exact i32_in hi g2) (by rw [i32_clamp hi3, arrV_read _ _ (by omega)]; rfl) rfl rfl hd kk) h
theorem wm_aald4 {a : Nat} {i : Int} (hd : decode y.2.1 pc = .ok (.aaload, 1)) (hK : mK M a = 34) (hi : 0 ≤ i ∧ i < mN M a) (h : mWm G y d (pc + 1) L (vr (mR M a i.toNat) :: st) M Q) : mWm G y d pc L (vi i :: vr a :: st) M Q :=
  wm_st (fun p e R s m args below meth co H locs cells slots ls Qf hA hR hL kk => by
    obtain ⟨g1, g2, g3⟩ := (hR.2.2.2.2.2.2 a).2.1 4 (.object "ChanceArena$Natural") hK rfl
    obtain ⟨hx, hb, -, -, -, -, hown, hKK, hts, -⟩ := hA
    have hi3 : i32 i := ⟨by omega, by omega⟩
    show W p (gL G) e R s m args below meth co H locs cells slots Qf (F0 m pc ls (.int (Int32.ofInt i) :: mcv (vr a) :: st.map mcv))
    rw [hR.own g1]
    exact W.aald (ty := (.object "ChanceArena$Natural")) (v := mcv (vr (mR M a i.toNat))) hx hb g3 ((hKK.2 4 _ rfl).1 _ _) rfl (fun q => by cases q) (by rw [arrV_size]; exact i32_in hi g2) (by rw [i32_clamp hi3, arrV_read _ _ (by omega)]; rfl) rfl rfl hd kk) h
theorem wm_aald5 {a : Nat} {i : Int} (hd : decode y.2.1 pc = .ok (.aaload, 1)) (hK : mK M a = 35) (hi : 0 ≤ i ∧ i < mN M a) (h : mWm G y d (pc + 1) L (vr (mR M a i.toNat) :: st) M Q) : mWm G y d pc L (vi i :: vr a :: st) M Q :=
  wm_st (fun p e R s m args below meth co H locs cells slots ls Qf hA hR hL kk => by
    obtain ⟨g1, g2, g3⟩ := (hR.2.2.2.2.2.2 a).2.1 5 (.object "ChanceArena$Fraction") hK rfl
    obtain ⟨hx, hb, -, -, -, -, hown, hKK, hts, -⟩ := hA
    have hi3 : i32 i := ⟨by omega, by omega⟩
    show W p (gL G) e R s m args below meth co H locs cells slots Qf (F0 m pc ls (.int (Int32.ofInt i) :: mcv (vr a) :: st.map mcv))
    rw [hR.own g1]
    exact W.aald (ty := (.object "ChanceArena$Fraction")) (v := mcv (vr (mR M a i.toNat))) hx hb g3 ((hKK.2 5 _ rfl).1 _ _) rfl (fun q => by cases q) (by rw [arrV_size]; exact i32_in hi g2) (by rw [i32_clamp hi3, arrV_read _ _ (by omega)]; rfl) rfl rfl hd kk) h
theorem wm_aald6 {a : Nat} {i : Int} (hd : decode y.2.1 pc = .ok (.aaload, 1)) (hK : mK M a = 36) (hi : 0 ≤ i ∧ i < mN M a) (h : mWm G y d (pc + 1) L (vr (mR M a i.toNat) :: st) M Q) : mWm G y d pc L (vi i :: vr a :: st) M Q :=
  wm_st (fun p e R s m args below meth co H locs cells slots ls Qf hA hR hL kk => by
    obtain ⟨g1, g2, g3⟩ := (hR.2.2.2.2.2.2 a).2.1 6 (.object "ChanceArenaModel$Fraction") hK rfl
    obtain ⟨hx, hb, -, -, -, -, hown, hKK, hts, -⟩ := hA
    have hi3 : i32 i := ⟨by omega, by omega⟩
    show W p (gL G) e R s m args below meth co H locs cells slots Qf (F0 m pc ls (.int (Int32.ofInt i) :: mcv (vr a) :: st.map mcv))
    rw [hR.own g1]
    exact W.aald (ty := (.object "ChanceArenaModel$Fraction")) (v := mcv (vr (mR M a i.toNat))) hx hb g3 ((hKK.2 6 _ rfl).1 _ _) rfl (fun q => by cases q) (by rw [arrV_size]; exact i32_in hi g2) (by rw [i32_clamp hi3, arrV_read _ _ (by omega)]; rfl) rfl rfl hd kk) h
theorem wm_alen {a : Nat} (t : Nat) {ty : FieldType} (hty : arTy[t]? = some ty) (hz : ∀ tA, (zT tA)[t]? = some (tA t, ty)) (hd : decode y.2.1 pc = .ok (.arraylength, 1)) (hK : mK M a = 30 + t) (h : mWm G y d (pc + 1) L (vi (mN M a : Int) :: st) M Q) : mWm G y d pc L (vr a :: st) M Q :=
  wm_st (fun p e R s m args below meth co H locs cells slots ls Qf hA hR hL kk => by
    obtain ⟨g1, g2, g3⟩ := (hR.2.2.2.2.2.2 a).2.1 t ty hK hty
    obtain ⟨hx, hb, -, -, -, -, hown, hKK, hts, -, hvm, -⟩ := hA
    show W p (gL G) e R s m args below meth co H locs cells slots Qf (F0 m pc ls (mcv (vr a) :: st.map mcv))
    rw [hR.own g1]
    exact W.alen (n := Int32.ofInt (mN M a : Int)) hx hb g3 ((hKK.2 t _ (hz _)).1 _ _) (by rw [arrV_size]; rfl) rfl rfl hd kk) h
theorem wm_iast {a : Nat} {i x : Int} (hd : decode y.2.1 pc = .ok (.iastore, 1)) (hK : mK M a = 30) (hi : 0 ≤ i ∧ i < mN M a) (hx3 : i32 x) (h : mWm G y d (pc + 1) L st (mUI M a i.toNat x) Q) : mWm G y d pc L (vi x :: vi i :: vr a :: st) M Q :=
  wm_wr (M1 := mUI M a i.toNat x) rfl rfl (fun p e R s m args below meth co H locs cells slots ls Qf hA hR hlo hL kk => by
    obtain ⟨g1, g2, g3⟩ := (hR.2.2.2.2.2.2 a).2.1 0 .int hK rfl
    obtain ⟨hx, hb, -, -, -, -, hown, hKK, hts, -⟩ := hA
    have hi3 : i32 i := ⟨by omega, by omega⟩
    show W p (gL G) e R s m args below meth co H locs cells slots Qf (F0 m pc ls (mcv (vi x) :: .int (Int32.ofInt i) :: mcv (vr a) :: st.map mcv))
    rw [hR.own g1]
    refine W.iast hx hb g3 ((hKK.2 0 _ rfl).1 _ _) (fun q => by cases q) (by rw [arrV_size]; exact i32_in hi g2) rfl rfl hd fun H' e1 e2 e3 => ?_
    rw [i32_clamp hi3] at e1
    exact kk H' _ (hR.sto (M' := mUI M a i.toNat x) (ty := .int) (v := mcv (vi x)) rfl hK e1 e2 e3 rfl rfl rfl (mOk_UI hR.2.2.2.1 hx3) (fun ty9 b9 k9 q9 => fV_UI ty9 q9) (by show mcv (vi (if _ then _ else _)) = _; rw [if_pos ⟨rfl, rfl⟩])) (m_own1 hlo g1)) h
theorem wm_zast {a : Nat} {i x : Int} (hd : decode y.2.1 pc = .ok (.bastore, 1)) (hK : mK M a = 31) (hi : 0 ≤ i ∧ i < mN M a) (hx3 : x = 0 ∨ x = 1) (h : mWm G y d (pc + 1) L st (mUI M a i.toNat x) Q) : mWm G y d pc L (vi x :: vi i :: vr a :: st) M Q :=
  wm_wr (M1 := mUI M a i.toNat x) rfl rfl (fun p e R s m args below meth co H locs cells slots ls Qf hA hR hlo hL kk => by
    obtain ⟨g1, g2, g3⟩ := (hR.2.2.2.2.2.2 a).2.1 1 .boolean hK rfl
    obtain ⟨hx, hb, -, -, -, -, hown, hKK, hts, -⟩ := hA
    have hi3 : i32 i := ⟨by omega, by omega⟩
    show W p (gL G) e R s m args below meth co H locs cells slots Qf (F0 m pc ls (mcv (vi x) :: .int (Int32.ofInt i) :: mcv (vr a) :: st.map mcv))
    rw [hR.own g1]
    refine W.zast hx hb g3 ((hKK.2 1 _ rfl).1 _ _) (fun q => by cases q) (by rw [arrV_size]; exact i32_in hi g2) rfl rfl hd fun H' e1 e2 e3 => ?_
    rw [i32_clamp hi3] at e1
    rw [show narrow .boolean (.int (Int32.ofInt x)) = mcv (vi x) by rcases hx3 with q | q <;> subst q <;> rfl] at e1
    exact kk H' _ (hR.sto (M' := mUI M a i.toNat x) (ty := .boolean) (v := mcv (vi x)) rfl hK e1 e2 e3 rfl rfl rfl (mOk_UI hR.2.2.2.1 (by rcases hx3 with q | q <;> subst q <;> exact ⟨by decide, by decide⟩)) (fun ty9 b9 k9 q9 => fV_UI ty9 q9) (by show mcv (vi (if _ then _ else _)) = _; rw [if_pos ⟨rfl, rfl⟩])) (m_own1 hlo g1)) h
theorem m_char {x : Int} (hx : 0 ≤ x ∧ x < 65536) : narrow .char (.int (Int32.ofInt x)) = mcv (vi x) := by
  have e : Int32.ofInt x = nI x.toNat := by
    rw [← Int32.toInt_inj, i32_toInt ⟨by omega, by omega⟩, nI_toInt (by omega)]
    omega
  show _ = Value.int (Int32.ofInt x)
  rw [e]
  exact (pk_charN (by omega)).1
theorem wm_cast {a : Nat} {i x : Int} (hd : decode y.2.1 pc = .ok (.castore, 1)) (hK : mK M a = 32) (hi : 0 ≤ i ∧ i < mN M a) (hx3 : 0 ≤ x ∧ x < 65536) (h : mWm G y d (pc + 1) L st (mUI M a i.toNat x) Q) : mWm G y d pc L (vi x :: vi i :: vr a :: st) M Q :=
  wm_wr (M1 := mUI M a i.toNat x) rfl rfl (fun p e R s m args below meth co H locs cells slots ls Qf hA hR hlo hL kk => by
    obtain ⟨g1, g2, g3⟩ := (hR.2.2.2.2.2.2 a).2.1 2 .char hK rfl
    obtain ⟨hx, hb, -, -, -, -, hown, hKK, hts, -⟩ := hA
    have hi3 : i32 i := ⟨by omega, by omega⟩
    show W p (gL G) e R s m args below meth co H locs cells slots Qf (F0 m pc ls (mcv (vi x) :: .int (Int32.ofInt i) :: mcv (vr a) :: st.map mcv))
    rw [hR.own g1]
    refine W.cast hx hb g3 ((hKK.2 2 _ rfl).1 _ _) (fun q => by cases q) (by rw [arrV_size]; exact i32_in hi g2) rfl rfl hd fun H' e1 e2 e3 => ?_
    rw [i32_clamp hi3] at e1
    rw [show narrow .char (.int (Int32.ofInt x)) = mcv (vi x) from m_char hx3] at e1
    exact kk H' _ (hR.sto (M' := mUI M a i.toNat x) (ty := .char) (v := mcv (vi x)) rfl hK e1 e2 e3 rfl rfl rfl (mOk_UI hR.2.2.2.1 ⟨by omega, by omega⟩) (fun ty9 b9 k9 q9 => fV_UI ty9 q9) (by show mcv (vi (if _ then _ else _)) = _; rw [if_pos ⟨rfl, rfl⟩])) (m_own1 hlo g1)) h
theorem wm_last {a : Nat} {i x : Int} (hd : decode y.2.1 pc = .ok (.lastore, 1)) (hK : mK M a = 33) (hi : 0 ≤ i ∧ i < mN M a) (hx3 : i64 x) (h : mWm G y d (pc + 1) L st (mUL M a i.toNat x) Q) : mWm G y d pc L (vl x :: vi i :: vr a :: st) M Q :=
  wm_wr (M1 := mUL M a i.toNat x) rfl rfl (fun p e R s m args below meth co H locs cells slots ls Qf hA hR hlo hL kk => by
    obtain ⟨g1, g2, g3⟩ := (hR.2.2.2.2.2.2 a).2.1 3 .long hK rfl
    obtain ⟨hx, hb, -, -, -, -, hown, hKK, hts, -⟩ := hA
    have hi3 : i32 i := ⟨by omega, by omega⟩
    show W p (gL G) e R s m args below meth co H locs cells slots Qf (F0 m pc ls (mcv (vl x) :: .int (Int32.ofInt i) :: mcv (vr a) :: st.map mcv))
    rw [hR.own g1]
    refine W.last hx hb g3 ((hKK.2 3 _ rfl).1 _ _) (fun q => by cases q) (by rw [arrV_size]; exact i32_in hi g2) rfl rfl hd fun H' e1 e2 e3 => ?_
    rw [i32_clamp hi3] at e1
    exact kk H' _ (hR.sto (M' := mUL M a i.toNat x) (ty := .long) (v := mcv (vl x)) rfl hK e1 e2 e3 rfl rfl rfl (mOk_UL hR.2.2.2.1 hx3) (fun ty9 b9 k9 q9 => fV_UL ty9 q9) (by show mcv (vl (if _ then _ else _)) = _; rw [if_pos ⟨rfl, rfl⟩])) (m_own1 hlo g1)) h
/-- a step that makes a cell -/
theorem wm_al {pc' : Nat} {st' : List mV} {k n cs : Nat} (hs : ∀ (p : Program) (e : Env) (R : Room) (s : State) (m : MethodId) (args : Array Value) (below : List Frame) (meth : Method) (c : Code) (H : Heap) (locs : List Loc) (cells slots : Nat) (ls : Array Slot) (Qf : State → Prop), mAt G y d p R s m args meth c → mRep G M H → cells + 1 ≤ R.cells → slots + cs ≤ R.slots → mLs ls y.2.2.1 L → (∀ (H1 : Heap), mRep G (mNew M k n cs) H1 → W p (gL G) e R s m args below meth c H1 locs (cells + 1) (slots + cs) Qf (F0 m pc' ls (st'.map mcv))) → W p (gL G) e R s m args below meth c H locs cells slots Qf (F0 m pc ls (st.map mcv))) (h : mWm G y d pc' L st' (mNew M k n cs) Q) : mWm G y d pc L st M Q := by
  obtain ⟨r, M', ⟨h1, h2⟩, h3⟩ := h
  rw [mZ_New, mS_New] at h1
  refine ⟨r, M', ⟨⟨by omega, by omega⟩, fun p e R s m args below meth c H locs cells slots ls hA hR hl hc hs' hL => hs p e R s m args below meth c H locs cells slots ls _ hA hR (by omega) (by omega) hL (fun H1 hR1 => ?_)⟩, h3⟩
  have := h2 p e R s m args below meth c H1 locs (cells + 1) (slots + cs) ls hA hR1 hl (by rw [mZ_New]; omega) (by rw [mS_New]; omega) hL
  rw [mZ_New, mS_New] at this
  rw [show cells + (mZ M' - mZ M) = cells + 1 + (mZ M' - (mZ M + 1)) by omega, show slots + (mS M' - mS M) = slots + cs + (mS M' - (mS M + cs)) by omega]
  exact this
theorem mRep.new {H H' : Heap} (hR : mRep G M H) {k n cs : Nat} (z1 : H'.size = H.size + 1) (o1 : ∀ q, q < H.size → H'[q]? = H[q]?) (hn : mRepO G (mNew M k n cs) H' (mZ M) ∧ mRepA G (mNew M k n cs) H' (mZ M) ∧ mRepP G (mNew M k n cs) H' (mZ M)) : mRep G (mNew M k n cs) H' := by
  obtain ⟨r1, r2, r3, r4, r5, r6, r7⟩ := hR
  have hR : mRep G M H := ⟨r1, r2, r3, r4, r5, r6, r7⟩
  refine ⟨by rw [z1, mZ_New, r1], r2, by rw [mZ_New]; omega, mOk_New r4, fun q hq => by rw [o1 q (by omega)]; exact r5 q hq, fun b hb => ?_, fun b => ?_⟩
  · rw [mZ_New] at hb
    rw [mK_New, if_neg (by omega)]
    exact r6 b (by omega)
  · by_cases hb : b = mZ M
    · subst hb; exact hn
    · by_cases hl : b < mZ M
      · exact hR.keep (o1 b (by omega)) (by rw [mK_New, if_neg hb]) (by rw [mN_New, if_neg hb]) (fun ty j => fV_New ty hb)
      · have h0 : mK (mNew M k n cs) b = 0 := by rw [mK_New, if_neg hb]; exact r6 b (by omega)
        refine ⟨fun c r t q1 => ?_, fun t ty q1 => ?_, fun q1 => ?_⟩
        · rw [h0] at q1; omega
        · rw [h0] at q1; omega
        · rw [h0] at q1; omega
def dV (ty : FieldType) : Value := match ty with
  | .long => .long 0
  | .object _ => .null
  | .array _ => .null
  | _ => .int 0
theorem fV_zero {k n cs j : Nat} (ty : FieldType) : fV ty (mNew M k n cs) (mZ M) j = dV ty := by
  cases ty <;> simp only [fV, dV, mL_New, mR_New, mI_New, if_true] <;> rfl
theorem wm_new {c idx : Nat} {C : String} {T : u_T} {N : Nat} {t : Nat → FieldType} (hcl : vwCl[c]? = some (C, T, N)) (hty : vwTy[c]? = some t) (hin : ∀ w ∈ u_ws C T N, w ∈ lw_R) (hpd : ∀ k, k < N → parseFieldDescriptor (T k).2.2.1 = some (t k)) (hw1 : Cond.classLink y.1.cls idx C ∈ lw_R) (hw2 : Cond.instantiable C N ∈ lw_R) (hw3 : Cond.initialized C ∈ lw_R) (hdf : ∀ k, k < N → defaultValue (t k) = dV (t k)) (hd : decode y.2.1 pc = .ok (.new idx, 3)) (h : mWm G y d (pc + 3) L (vr (mZ M) :: st) (mNew M (c + 1) 0 N) Q) : mWm G y d pc L st M Q :=
  wm_al (fun p e R s m args below meth co H locs cells slots ls Qf hA hR hc hs hL kk => by
    obtain ⟨hx, hb, -, -, -, -, hown, hKK, hts, -⟩ := hA
    have hKn := hKK.1 c _ hcl
    have hz : mcv (vr (mZ M)) = .ref (mZ M) := hR.own hR.2.2.1
    refine W.newcK hx hb hown (hts _ hw1) (hts _ hw2) (hts _ hw3) rfl hd hc hs hKn.2.1 (h := mZ M) hR.1 fun H1 kC hkC e1 z1 o1 => ?_
    have hlt := vwCl_lt hcl
    have := kk H1 (hR.new (by rw [z1, hR.1]) (fun q hq => o1 q (by rw [← hR.1]; exact hq)) ⟨fun c' r' t' q1 q2 q3 => ?_, fun t' ty' q1 q2 => ?_, fun q1 => ?_⟩)
    · rw [← hz]; exact this
    · have ec : c' = c := by rw [mK_New, if_pos rfl] at q1; omega
      subst ec
      have er : r' = (C, T, N) := Option.some.inj (q2.symm.trans hcl)
      subst er
      have et : t' = t := Option.some.inj (q3.symm.trans hty)
      subst et
      exact ⟨hR.2.2.1, (u_born t' hts hin hKn hkC e1 hpd).to (fun k hk => by rw [hdf k hk, fV_zero])⟩
    · have := arTy_lt q2; rw [mK_New, if_pos rfl] at q1; omega
    · rw [mK_New, if_pos rfl] at q1; omega) h
theorem mRep.newA {H H' : Heap} (hR : mRep G M H) {t n cs : Nat} {ty : FieldType} (hty : arTy[t]? = some ty) (hn : n < 2147483648) (hdf : defaultValue ty = dV ty) (e1 : H'[mZ M]? = some (arrV (gA G t) n (fun _ => defaultValue ty))) (z1 : H'.size = H.size + 1) (o1 : ∀ q, q < H.size → H'[q]? = H[q]?) : mRep G (mNew M (30 + t) n cs) H' := by
  have hlt := arTy_lt hty
  refine hR.new z1 o1 ⟨fun c' r' t' q1 q2 q3 => ?_, fun t' ty' q1 q2 => ?_, fun q1 => ?_⟩
  · have := vwCl_lt q2; rw [mK_New, if_pos rfl] at q1; omega
  · have et : t' = t := by rw [mK_New, if_pos rfl] at q1; omega
    subst et
    have ey : ty' = ty := Option.some.inj (q2.symm.trans hty)
    subst ey
    refine ⟨hR.2.2.1, by rw [mN_New, if_pos rfl]; exact hn, ?_⟩
    rw [e1, mN_New, if_pos rfl]
    congr 2
    funext j
    rw [fV_zero, hdf]
  · rw [mK_New, if_pos rfl] at q1; omega
theorem wm_newarr (t : Nat) {atype : ArrayType} {ty : FieldType} (hat : newarray.typeOf atype = ty) (hty : arTy[t]? = some ty) (hz : ∀ tA, (zT tA)[t]? = some (tA t, ty)) (hpr : ∀ C, ty ≠ .object C) (hdf : defaultValue ty = dV ty) (hcb : componentBytes ty ≤ 8) (hw : Cond.arrayClass ty ∈ lw_R) {n : Int} (hn : 0 ≤ n ∧ n ≤ 16777216) (hd : decode y.2.1 pc = .ok (.newarray atype, 2)) (h : mWm G y d (pc + 2) L (vr (mZ M) :: st) (mNew M (30 + t) n.toNat n.toNat) Q) : mWm G y d pc L (vi n :: st) M Q :=
  wm_al (fun p e R s m args below meth co H locs cells slots ls Qf hA hR hc hs hL kk => by
    obtain ⟨hx, hb, -, -, -, -, hown, hKK, hts, -⟩ := hA
    have hi3 : i32 n := ⟨by omega, by omega⟩
    have hzz : mcv (vr (mZ M)) = .ref (mZ M) := hR.own hR.2.2.1
    subst hat
    refine va_newaK hx hb (hts _ hw) rfl hd rfl (by rw [i32_lt0 hi3]; omega) (i32_clamp hi3) (Nat.le_trans (Nat.mul_le_mul (Nat.le_refl _) hcb) (by omega)) hc hs (h := mZ M) hR.1 fun H1 cA e1 z1 o1 hAr hNm => ?_
    have e2 := (hKK.2 t _ (hz _)).2
    have e3 : cA = gA G t := by
      generalize newarray.typeOf atype = ty9 at *
      cases ty9 with
      | object C => exact absurd rfl (hpr C)
      | _ => exact Option.some.inj (hNm.symm.trans e2)
    subst e3
    have := kk H1 (hR.newA hty (by omega) hdf e1 (by rw [z1, hR.1]) (fun q hq => o1 q (by rw [← hR.1]; exact hq)))
    rw [← hzz]; exact this) h
theorem wm_anew (t : Nat) {C : String} {idx : Nat} (hty : arTy[t]? = some (.object C)) (hz : ∀ tA, (zT tA)[t]? = some (tA t, .object C)) (hw1 : Cond.classLink y.1.cls idx C ∈ lw_R) (hw2 : Cond.arrayOver (.object C) ∈ lw_R) {n : Int} (hn : 0 ≤ n ∧ n ≤ 16777216) (hd : decode y.2.1 pc = .ok (.anewarray idx, 3)) (h : mWm G y d (pc + 3) L (vr (mZ M) :: st) (mNew M (30 + t) n.toNat n.toNat) Q) : mWm G y d pc L (vi n :: st) M Q :=
  wm_al (fun p e R s m args below meth co H locs cells slots ls Qf hA hR hc hs hL kk => by
    obtain ⟨hx, hb, -, -, -, -, hown, hKK, hts, -⟩ := hA
    have hi3 : i32 n := ⟨by omega, by omega⟩
    have hzz : mcv (vr (mZ M)) = .ref (mZ M) := hR.own hR.2.2.1
    refine W.anew hx hb hown (hts _ hw1) (hts _ hw2) rfl hd rfl (by rw [i32_lt0 hi3]; omega) (by rw [i32_clamp hi3]; omega) hc (by rw [i32_clamp hi3]; exact hs) fun cA kA comp f1 f2 f3 f4 => ?_
    obtain ⟨_, _, _, _, _, e2⟩ := (hKK.2 t _ (hz _)).2
    have e3 : cA = gA G t := Option.some.inj (f1.symm.trans e2)
    subst e3
    rw [i32_clamp hi3, hR.1]
    have := kk (H.push { cls := gA G t, slots := Array.replicate n.toNat .null, vm := .none }) (hR.newA (ty := .object C) hty (by omega) rfl (by rw [← hR.1, Array.getElem?_push_size, arrV_new]; rfl) (by rw [Array.size_push]) (fun q hq => by rw [Array.getElem?_push, if_neg (by omega)]))
    rw [← hzz]; exact this) h
theorem wm_aast {t c a v : Nat} {i : Int} {r : vw_C} (hty : arTy[t]? = some (.object r.1)) (hz : ∀ tA, (zT tA)[t]? = some (tA t, .object r.1)) (hcl : vwCl[c]? = some r) {t9 : Nat → FieldType} (hvt : vwTy[c]? = some t9) (hd : decode y.2.1 pc = .ok (.aastore, 1)) (hK : mK M a = 30 + t) (hi : 0 ≤ i ∧ i < mN M a) (hKv : mK M v = c + 1) (h : mWm G y d (pc + 1) L st (mUR M a i.toNat v) Q) : mWm G y d pc L (vr v :: vi i :: vr a :: st) M Q :=
  wm_wr (M1 := mUR M a i.toNat v) rfl rfl (fun p e R s m args below meth co H locs cells slots ls Qf hA hR hlo hL kk => by
    obtain ⟨g1, g2, g3⟩ := (hR.2.2.2.2.2.2 a).2.1 t _ hK hty
    obtain ⟨hb1, cellV, q1, q2, q3, q4⟩ := (hR.2.2.2.2.2.2 v).1 c _ t9 hKv hcl hvt
    obtain ⟨hx, hb, -, -, -, -, hown, hKK, hts, -⟩ := hA
    have hi3 : i32 i := ⟨by omega, by omega⟩
    show W p (gL G) e R s m args below meth co H locs cells slots Qf (F0 m pc ls (mcv (vr v) :: .int (Int32.ofInt i) :: mcv (vr a) :: st.map mcv))
    rw [hR.own g1, hR.own hb1]
    have hcls := (hKK.1 c r hcl).2
    obtain ⟨kA, comp, k1, k2, k3, -⟩ := (hKK.2 t _ (hz _)).2
    have hcomp : comp = (gD G).1 c := Option.some.inj (k3.symm.trans hcls.1)
    subst hcomp
    have has := va_assign hcls
    obtain ⟨-, kC, hkC, hkind⟩ := hcls
    refine W.aast hx hb g3 (fun q h => by cases h) (fun q => by cases q) k1 k2 rfl hkC ⟨by rw [i32_lt0 hi3]; omega, by rw [i32_clamp hi3, arrV_size]; omega⟩ q1 (fun q h => by rw [q3] at h; cases h) (by rw [q2]; exact hkC) (by rw [q2]; exact has) rfl rfl hd fun H' e1 e2 e3 => ?_
    rw [i32_clamp hi3] at e1
    exact kk H' _ (hR.sto (M' := mUR M a i.toNat v) (ty := .object r.1) (v := .ref v) hty hK e1 e2 e3 rfl rfl rfl hR.2.2.2.1 (fun ty9 b9 k9 q9 => fV_UR ty9 q9) (by show mrv (if _ then _ else _) = _; rw [if_pos ⟨rfl, rfl⟩]; exact hR.own hb1)) (m_own1 hlo g1)) h
/-! ends -/
theorem wm_end {r : Option mV} (hs : ∀ (p : Program) (e : Env) (R : Room) (s : State) (m : MethodId) (args : Array Value) (below : List Frame) (meth : Method) (c : Code) (H : Heap) (locs : List Loc) (cells slots : Nat) (ls : Array Slot), mAt G y d p R s m args meth c → (∀ t : State, t.heap = H → s.WarmedH t.vm → mQ G r M args s (.returned (r.map mcv)) t) → (∀ q ∈ locs, mOwn G q.base) → W p (gL G) e R s m args below meth c H locs cells slots (MQ below (mQ G r M) args s cells slots (mOwn G)) (F0 m pc ls (st.map mcv))) (h : Q r M) : mWm G y d pc L st M Q := by
  refine ⟨r, M, ⟨⟨Nat.le_refl _, Nat.le_refl _⟩, fun p e R s m args below meth c H locs cells slots ls hA hR hl hc hs' hL => ?_⟩, h⟩
  rw [Nat.sub_self, Nat.sub_self]
  exact hs p e R s m args below meth c H locs cells slots ls hA (fun t ht hW => ⟨rfl, by rw [ht]; exact hR⟩) hl
theorem wm_ireturn {x : Int} {ty : FieldType} (hd : decode y.2.1 pc = .ok (.ireturn, 1)) (hr : y.2.2.2 = some ty) (hn : narrow ty (.int (Int32.ofInt x)) = .int (Int32.ofInt x)) (h : Q (some (vi x)) M) : mWm G y d pc L [vi x] M Q :=
  wm_end (r := some (vi x)) (fun p e R s m args below meth c H locs cells slots ls hA hq hl => by
    obtain ⟨hx, hb, -, hret, hlk, -⟩ := hA
    exact W.zret hx hb (hret.trans hr) hn hq hl hd hlk) h
theorem wm_lreturn {x : Int} (hd : decode y.2.1 pc = .ok (.lreturn, 1)) (hr : y.2.2.2 = some .long) (h : Q (some (vl x)) M) : mWm G y d pc L [vl x] M Q :=
  wm_end (r := some (vl x)) (fun p e R s m args below meth c H locs cells slots ls hA hq hl => by
    obtain ⟨hx, hb, -, hret, hlk, -⟩ := hA
    exact W.lret hx hb (hret.trans hr) hq hl hd hlk) h
theorem mrv_or (x : Nat) : mrv x = .null ∨ ∃ a, mrv x = .ref a := by
  by_cases h : x = 0
  · exact Or.inl (if_pos h)
  · exact Or.inr ⟨x, if_neg h⟩
theorem wm_areturn {x : Nat} {rt : FieldType} (hd : decode y.2.1 pc = .ok (.areturn, 1)) (hr : y.2.2.2 = some rt) (hrt : (∃ n, rt = .object n) ∨ ∃ t, rt = .array t) (h : Q (some (vr x)) M) : mWm G y d pc L [vr x] M Q :=
  wm_end (r := some (vr x)) (fun p e R s m args below meth c H locs cells slots ls hA hq hl => by
    obtain ⟨hx, hb, -, hret, hlk, -⟩ := hA
    exact W.aret hx hb (hret.trans hr) hrt (mrv_or x) hq hl hd hlk) h
theorem wm_return (hd : decode y.2.1 pc = .ok (.return_, 1)) (hr : y.2.2.2 = none) (h : Q none M) : mWm G y d pc L [] M Q :=
  wm_end (r := none) (fun p e R s m args below meth c H locs cells slots ls hA hq hl => by
    obtain ⟨hx, hb, -, hret, hlk, -⟩ := hA
    exact W.vret hx hb (hret.trans hr) hq hl hd hlk) h
theorem mEnt_len : ∀ vs : List mV, (lg_sl (vs.map mcv)).length = (mEnt vs).length
  | [] => rfl
  | .inl x :: vs => by
    have := mEnt_len vs
    simp [lg_sl, mEnt] at this ⊢
    rw [← this]
    simp [mcv, Value.category]
    omega
  | .inr (.inl x) :: vs => by
    have := mEnt_len vs
    simp [lg_sl, mEnt] at this ⊢
    rw [← this]
    simp [mcv, Value.category]
    omega
  | .inr (.inr (.inl a)) :: vs => by
    have h1 := mEnt_len vs
    have h2 : (mcv (Sum.inr (Sum.inr (Sum.inl a)))).category = 1 := mcat_mcv _
    simp [lg_sl, mEnt, h2] at h1 ⊢
    rw [← h1]
  | .inr (.inr (.inr u)) :: vs => by
    have h1 := mEnt_len vs
    have h2 : (mcv (Sum.inr (Sum.inr (Sum.inr u)))).category = 1 := mcat_mcv _
    simp [lg_sl, mEnt, h2] at h1 ⊢
    rw [← h1]
/-- a method's contract is opened -/
theorem wm_open {args : List mV} (hp : plainName y.1.cls = true) (hlen : (mEnt args).length ≤ y.2.2.1) (hL : mEnt args ++ List.replicate (y.2.2.1 - (mEnt args).length) vd = L) (h : mWm G y d 0 L [] M Q) : mCm G y d args M Q := by
  obtain ⟨r, M', ⟨h1, h2⟩, h3⟩ := h
  refine ⟨r, M', ⟨h1, ?_⟩, h3⟩
  refine Met.ofW (cc := y.2.1) (maxL := y.2.2.1) (ret := y.2.2.2) hp rfl ?_
  intro p e s m args9 below meth c s₁ B hml hv
  obtain ⟨rfl, hRep, hK, hh, hal⟩ := hv
  have hl := lv_entry (args.map mcv) (n := y.2.2.1) (by rw [mEnt_len]; exact hlen)
  rw [lg_entry_eq]
  generalize (lg_sl (args.map mcv) ++ List.replicate (y.2.2.1 - (lg_sl (args.map mcv)).length) Slot.unset).toArray = ls at hl ⊢
  have hLs : mLs ls y.2.2.1 L := by
    refine ⟨hl.1, hl.2.1, fun i v hi hv => ?_⟩
    rw [← hL] at hi
    by_cases q : i < (mEnt args).length
    · rw [List.getElem?_append_left q] at hi
      have := mEnt_args args 0 i v hi hv
      rw [Nat.zero_add] at this
      exact hl.2.2 _ this
    · rw [List.getElem?_append_right (by omega)] at hi
      have := List.mem_of_getElem? hi
      rw [List.eq_of_mem_replicate this] at hv
      cases hv
  have := h2 p e (headSpec (zW (yC y)) { frames := d, cells := mZ M' - mZ M, slots := mS M' - mS M, locals := 64 * d }).room s m (args.map mcv).toArray below meth c s.heap [] 0 0 ls ⟨B.exec, B.bytes, hml, B.returns, B.notSynchronized, (name_of_methodNamed B.named B.method).1, findClass_of_methodNamed B.named, hK, hh.use _, hh, hal, Nat.le_refl _, Nat.le_refl _⟩ hRep (fun q h => by cases h) (by rw [Nat.zero_add]; exact Nat.le_refl _) (by rw [Nat.zero_add]; exact Nat.le_refl _) hLs
  rw [Nat.zero_add, Nat.zero_add] at this
  exact this
end ARules
end
section
/-! THE FLAT MACHINE'S RULES for calls. -/
theorem mPre_blind {G : mG} {av : List Value} {M : mM} : FrameBlind (va_Pc av (mPre G M)) := fun a U g mk q => by
  obtain ⟨q0, qR, qK, qH, qA⟩ := q
  exact ⟨q0, qR, va_K.moved (u := U) (U := U.calling g mk a) (Vm.Alike.refl U.vm) qK, zH.moved (s := U) (U := U.calling g mk a) (State.WarmedH.refl U) qH, qA.moved (U := U.calling g mk a) (State.WarmedH.refl U)⟩
theorem mPre_at {G : mG} {M : mM} {s U : State} {H : Heap} (hK : va_K (gD G) vwCl (zT (gA G)) s) (hh : zH s) (ha : mAl G s) (hR : mRep G M H) (hU : U.heap = H) (hW : s.WarmedH U.vm) : mPre G M U :=
  ⟨by rw [hU]; exact hR, va_K.moved hW.alike hK, zH.moved hW hh, ha.moved hW⟩
theorem m_opt (r : Option mV) (st : List mV) : (r.map mcv).toList ++ st.map mcv = (r.toList ++ st).map mcv := by cases r <;> rfl
theorem m_cats (st : List mV) : ((st.map mcv).map fun v => v.category).sum = (st.map mcat).sum := by
  rw [List.map_map]
  congr 1
  refine List.map_congr_left (fun v _ => ?_)
  exact mcat_mcv v
section CRules
variable {G : mG} {y y2 : mY} {d pc : Nat} {L st As : List mV} {M : mM} {Q : Option mV → mM → Prop}
/-- a call, whatever its kind: what its run gives goes on -/
theorem wm_run {st0 : List mV} {a0 : Array Value} (hs : ∀ (r : Option mV) (M1 : mM), mCl G y2 d As M r M1 → ∀ (p : Program) (e : Env) (R : Room) (s : State) (m : MethodId) (args : Array Value) (below : List Frame) (meth : Method) (c : Code) (H : Heap) (locs : List Loc) (cells slots : Nat) (ls : Array Slot), mAt G y (d + 1) p R s m args meth c → mRep G M H → mLs ls y.2.2.1 L → cells + (mZ M1 - mZ M) ≤ R.cells ∧ slots + (mS M1 - mS M) ≤ R.slots → va_Run p (gL G) e R s m args below meth c H locs cells slots (mZ M1 - mZ M) (mS M1 - mS M) (F0 m pc ls (st0.map mcv)) (st.map mcv) (mQ G r M1 a0) (mOwn G))
    (h : mCm G y2 d As M (fun r M1 => mWm G y (d + 1) (pc + 3) L (r.toList ++ st) M1 Q)) : mWm G y (d + 1) pc L st0 M Q := by
  obtain ⟨r, M1, hC, r2, M2, ⟨⟨z1, z2⟩, hE⟩, hQ⟩ := h
  have hz := hC.1
  refine ⟨r2, M2, ⟨⟨by omega, by omega⟩, fun p e R s m args below meth c H locs cells slots ls hA hR hl hc hs' hL => ?_⟩, hQ⟩
  intro T hT X
  obtain ⟨v, s9, t, T', L', h0, X', hL', e1, e2, ⟨hv, hrep⟩, go⟩ := hs r M1 hC p e R s m args below meth c H locs cells slots ls hA hR hL ⟨by omega, by omega⟩ T hT X
  have hv' : v = r.map mcv := Outcome.returned.inj hv
  subst hv'
  obtain ⟨t2, a1, b1⟩ := hE p e R s m args below meth c T'.heap (locs ++ L') (cells + (mZ M1 - mZ M)) (slots + (mS M1 - mS M)) ls hA (by rw [e1]; exact hrep) (t_lL hl hL') (by omega) (by omega) hL T' rfl X'
  rw [← m_opt] at a1
  refine ⟨t2, go t2 a1, ?_⟩
  rw [show cells + (mZ M2 - mZ M) = cells + (mZ M1 - mZ M) + (mZ M2 - mZ M1) by omega, show slots + (mS M2 - mS M) = slots + (mS M1 - mS M) + (mS M2 - mS M1) by omega]
  exact b1
theorem m_room {R : Room} {d n : Nat} (hd : d + 1 ≤ R.frames) (hl : 64 * (d + 1) ≤ R.locals) (hn : n ≤ 45) : d + 1 ≤ R.frames ∧ 8 + (n + 11) + 64 * d ≤ R.locals := ⟨hd, by omega⟩
theorem wm_callV {c b idx n : Nat} {r0 : vw_C} {t9 : Nat → FieldType} {st0 : List mV} (hcl : vwCl[c]? = some r0) (hty : vwTy[c]? = some t9) (hr0 : r0.1 = y2.1.cls) (h1 : Cond.methodLink y.1.cls idx y2.1 ∈ lw_R) (h2 : Cond.instanceMethod y2.1 ∈ lw_R) (h3 : Cond.selects y2.1.cls y2.1 y2.1 ∈ lw_R) (h4 : Cond.initialized y2.1.cls ∈ lw_R) (h5 : yC y2 ∈ lw_R) (hd2 : y2.1.cls ≠ "java/lang/invoke/MethodHandle" ∧ y2.1.cls ≠ "java/lang/invoke/VarHandle" ∧ (parseMethodDescriptor y2.1.desc).map (fun d => d.parameters.length) = some n) (hnL : y2.2.2.1 ≤ 45) (hn : As.length = n) (hst : st0 = As.reverse ++ vr b :: st) (hW : (st.map mcat).sum ≤ 8) (hd : decode y.2.1 pc = .ok (.invokevirtual idx, 3)) (hK : mK M b = c + 1)
    (h : mCm G y2 d (vr b :: As) M (fun r M1 => mWm G y (d + 1) (pc + 3) L (r.toList ++ st) M1 Q)) : mWm G y (d + 1) pc L st0 M Q :=
  wm_run (a0 := (Value.ref b :: As.map mcv).toArray) (fun r M1 hC p e R s m args below meth c9 H locs cells slots ls hA hR hL hf => by
    subst hst
    obtain ⟨hx, hb, hml, -, -, -, hown, hKK, hts, hh, hal, hfr, hlo⟩ := hA
    obtain ⟨hb1, cell, q1, q2, q3, q4⟩ := (hR.2.2.2.2.2.2 b).1 c _ t9 hK hcl hty
    have hbv : mcv (vr b) = .ref b := hR.own hb1
    have hM := hC.2
    rw [List.map_cons, hbv] at hM
    refine va_runV ⟨hx, hb, hml, hown, hts⟩ hM (C := y2.1.cls) (n := n) ⟨callB_of n hts (zGood h5 rfl) rfl rfl rfl (hts _ h4) (hts _ h1) hd2 (m_room hfr hlo hnL), hts _ h2, hts _ h3⟩ ⟨mPre_blind, ⟨cell, q1, by rw [q3]; rfl, by rw [q2, ← hr0]; exact (hKK.1 c _ hcl).2.1⟩, fun U hU hW9 => ⟨rfl, mPre_at hKK hh hal hR hU hW9⟩⟩ rfl (by rw [List.length_map]; exact hn) hL.1 ?_ (by rw [m_cats]; show 2 * 0 + _ ≤ 8; omega) hd hf
    show (As.reverse ++ vr b :: st).map mcv = _
    rw [List.map_append, List.map_cons, hbv, List.map_reverse]) h
theorem wm_callS {idx n : Nat} {st0 : List mV} (h1 : Cond.methodLink y.1.cls idx y2.1 ∈ lw_R) (h2 : Cond.static y2.1 ∈ lw_R) (h4 : Cond.initialized y2.1.cls ∈ lw_R) (h5 : yC y2 ∈ lw_R) (hd2 : y2.1.cls ≠ "java/lang/invoke/MethodHandle" ∧ y2.1.cls ≠ "java/lang/invoke/VarHandle" ∧ (parseMethodDescriptor y2.1.desc).map (fun d => d.parameters.length) = some n) (hnL : y2.2.2.1 ≤ 45) (hn : As.length = n) (hst : st0 = As.reverse ++ st) (hW : (st.map mcat).sum ≤ 8) (hd : decode y.2.1 pc = .ok (.invokestatic idx, 3))
    (h : mCm G y2 d As M (fun r M1 => mWm G y (d + 1) (pc + 3) L (r.toList ++ st) M1 Q)) : mWm G y (d + 1) pc L st0 M Q :=
  wm_run (a0 := (As.map mcv).toArray) (fun r M1 hC p e R s m args below meth c9 H locs cells slots ls hA hR hL hf => by
    subst hst
    obtain ⟨hx, hb, hml, -, -, -, hown, hKK, hts, hh, hal, hfr, hlo⟩ := hA
    refine va_runS ⟨hx, hb, hml, hown, hts⟩ hC.2 (n := n) ⟨callB_of n hts (zGood h5 rfl) rfl rfl rfl (hts _ h4) (hts _ h1) hd2 (m_room hfr hlo hnL), hts _ h2⟩ ⟨mPre_blind, fun U hU hW9 => ⟨rfl, mPre_at hKK hh hal hR hU hW9⟩⟩ rfl (by rw [List.length_map]; exact hn) hL.1 ?_ (by rw [m_cats]; show 2 * 0 + _ ≤ 8; omega) hd hf
    show (As.reverse ++ st).map mcv = _
    rw [List.map_append, List.map_reverse]) h
theorem wm_callI {c b idx n : Nat} {r0 : vw_C} {t9 : Nat → FieldType} {st0 : List mV} (hcl : vwCl[c]? = some r0) (hty : vwTy[c]? = some t9) (h1 : Cond.methodLink y.1.cls idx y2.1 ∈ lw_R) (h2 : Cond.instanceMethod y2.1 ∈ lw_R) (hini : y2.1.name = "<init>") (hret : y2.2.2.2 = none) (h4 : Cond.initialized y2.1.cls ∈ lw_R) (h5 : yC y2 ∈ lw_R) (hd2 : y2.1.cls ≠ "java/lang/invoke/MethodHandle" ∧ y2.1.cls ≠ "java/lang/invoke/VarHandle" ∧ (parseMethodDescriptor y2.1.desc).map (fun d => d.parameters.length) = some n) (hnL : y2.2.2.1 ≤ 45) (hn : As.length = n) (hst : st0 = As.reverse ++ vr b :: st) (hW : (st.map mcat).sum ≤ 8) (hd : decode y.2.1 pc = .ok (.invokespecial idx, 3)) (hK : mK M b = c + 1)
    (h : mCm G y2 d (vr b :: As) M (fun r M1 => mWm G y (d + 1) (pc + 3) L (r.toList ++ st) M1 Q)) : mWm G y (d + 1) pc L st0 M Q :=
  wm_run (a0 := (Value.ref b :: As.map mcv).toArray) (fun r M1 hC p e R s m args below meth c9 H locs cells slots ls hA hR hL hf => by
    subst hst
    obtain ⟨hx, hb, hml, -, -, -, hown, hKK, hts, hh, hal, hfr, hlo⟩ := hA
    obtain ⟨hb1, cell, q1, q2, q3, q4⟩ := (hR.2.2.2.2.2.2 b).1 c _ t9 hK hcl hty
    have hbv : mcv (vr b) = .ref b := hR.own hb1
    have hM := hC.2
    rw [List.map_cons, hbv] at hM
    have hcb := callB_of n hts (zGood h5 rfl) (rfl : zW (yC y2) = _ :: []) (rm := { frames := d, cells := mZ M1 - mZ M, slots := mS M1 - mS M, locals := 64 * d }) rfl rfl (hts _ h4) (hts _ h1) hd2 (m_room hfr hlo hnL)
    rw [hret] at hcb
    refine va_runI ⟨hx, hb, hml, hown, hts⟩ hM (n := n) ⟨hcb, hini, hts _ h2⟩ ⟨mPre_blind, fun U hU hW9 => ⟨rfl, mPre_at hKK hh hal hR hU hW9⟩⟩ rfl (by rw [List.length_map]; exact hn) hL.1 ?_ (by rw [m_cats]; show 2 * 0 + _ ≤ 8; omega) hd hf
    show (As.reverse ++ vr b :: st).map mcv = _
    rw [List.map_append, List.map_cons, hbv, List.map_reverse]) h
theorem wm_callIN {c b idx n : Nat} {host : String} {r0 : vw_C} {t9 : Nat → FieldType} {st0 : List mV} (hcl : vwCl[c]? = some r0) (hty : vwTy[c]? = some t9) (h1 : Cond.methodLinkNest y.1.cls idx y2.1 host ∈ lw_R) (h2 : Cond.instanceMethod y2.1 ∈ lw_R) (hini : y2.1.name = "<init>") (hret : y2.2.2.2 = none) (h4 : Cond.initialized y2.1.cls ∈ lw_R) (h5 : yC y2 ∈ lw_R) (hd2 : y2.1.cls ≠ "java/lang/invoke/MethodHandle" ∧ y2.1.cls ≠ "java/lang/invoke/VarHandle" ∧ (parseMethodDescriptor y2.1.desc).map (fun d => d.parameters.length) = some n) (hnL : y2.2.2.1 ≤ 45) (hn : As.length = n) (hst : st0 = As.reverse ++ vr b :: st) (hW : (st.map mcat).sum ≤ 8) (hd : decode y.2.1 pc = .ok (.invokespecial idx, 3)) (hK : mK M b = c + 1)
    (h : mCm G y2 d (vr b :: As) M (fun r M1 => mWm G y (d + 1) (pc + 3) L (r.toList ++ st) M1 Q)) : mWm G y (d + 1) pc L st0 M Q :=
  wm_run (a0 := (Value.ref b :: As.map mcv).toArray) (fun r M1 hC p e R s m args below meth c9 H locs cells slots ls hA hR hL hf => by
    subst hst
    obtain ⟨hx, hb, hml, -, -, -, hown, hKK, hts, hh, hal, hfr, hlo⟩ := hA
    obtain ⟨hb1, cell, q1, q2, q3, q4⟩ := (hR.2.2.2.2.2.2 b).1 c _ t9 hK hcl hty
    have hbv : mcv (vr b) = .ref b := hR.own hb1
    have hM := hC.2
    rw [List.map_cons, hbv] at hM
    have hcb := va_cnB n hts (zGood h5 rfl) (rfl : zW (yC y2) = _ :: []) (rm := { frames := d, cells := mZ M1 - mZ M, slots := mS M1 - mS M, locals := 64 * d }) rfl rfl (va_Nw.of rfl (hts _ h1)) (hts _ h4) hd2 (m_room hfr hlo hnL)
    rw [hret] at hcb
    refine va_runIN ⟨hx, hb, hml, hown, hts⟩ hM (n := n) ⟨hcb, hini, hts _ h2⟩ ⟨mPre_blind, fun U hU hW9 => ⟨rfl, mPre_at hKK hh hal hR hU hW9⟩⟩ rfl (by rw [List.length_map]; exact hn) hL.1 ?_ (by rw [m_cats]; show 2 * 0 + _ ≤ 8; omega) hd hf
    show (As.reverse ++ vr b :: st).map mcv = _
    rw [List.map_append, List.map_cons, hbv, List.map_reverse]) h
theorem wm_objInit {b idx : Nat} (hown9 : True) (h1 : Cond.methodLink y.1.cls idx Lib.objectInit ∈ lw_R) (h2 : Cond.instanceMethod Lib.objectInit ∈ lw_R) (h5 : Cond.code Lib.objectInit ⟨#[0xb1]⟩ 1 none ∈ lw_R) (hW : (st.map mcat).sum ≤ 8) (hd : decode y.2.1 pc = .ok (.invokespecial idx, 3)) (hb0 : 0 < b) (h : mWm G y (d + 1) (pc + 3) L st M Q) : mWm G y (d + 1) pc L (vr b :: st) M Q :=
  wm_st (fun p e R s m args below meth co H locs cells slots ls Qf hA hR hL kk => by
    obtain ⟨hx, hb, hml, -, -, -, hown, hKK, hts, hh, hal, hfr, hlo⟩ := hA
    show W p (gL G) e R s m args below meth co H locs cells slots Qf (F0 m pc ls (mcv (vr b) :: st.map mcv))
    rw [show mcv (vr b) = .ref b from if_neg (by omega)]
    exact W.objInit hx hb hown (hts _ h1) (hts _ h2) (hts _ h5) rfl (by rw [hml]; exact hL.1) rfl hd (by omega) (by rw [m_cats]; show 2 * 0 + _ + 12 ≤ _; omega) kk) h
end CRules
/-! what is asked of a call, by the kind of its answer -/
def Ci (G : mG) (y : mY) (d : Nat) (args : List mV) (M : mM) (Q : Int → mM → Prop) : Prop := mCm G y d args M (fun r M1 => ∃ x, r = some (vi x) ∧ Q x M1)
def Cj (G : mG) (y : mY) (d : Nat) (args : List mV) (M : mM) (Q : Int → mM → Prop) : Prop := mCm G y d args M (fun r M1 => ∃ x, r = some (vl x) ∧ Q x M1)
def Cr (G : mG) (y : mY) (d : Nat) (args : List mV) (M : mM) (Q : Nat → mM → Prop) : Prop := mCm G y d args M (fun r M1 => ∃ x, r = some (vr x) ∧ Q x M1)
def Cv (G : mG) (y : mY) (d : Nat) (args : List mV) (M : mM) (Q : mM → Prop) : Prop := mCm G y d args M (fun r M1 => r = none ∧ Q M1)
section CK
variable {G : mG} {y : mY} {d : Nat} {args : List mV} {M : mM}
theorem Ci.mono {Q Q' : Int → mM → Prop} (h : Ci G y d args M Q) (hq : ∀ x M', Q x M' → Q' x M') : Ci G y d args M Q' := mCm.mono h (fun r M' q => by obtain ⟨x, e, q⟩ := q; exact ⟨x, e, hq x M' q⟩)
theorem Cj.mono {Q Q' : Int → mM → Prop} (h : Cj G y d args M Q) (hq : ∀ x M', Q x M' → Q' x M') : Cj G y d args M Q' := mCm.mono h (fun r M' q => by obtain ⟨x, e, q⟩ := q; exact ⟨x, e, hq x M' q⟩)
theorem Cr.mono {Q Q' : Nat → mM → Prop} (h : Cr G y d args M Q) (hq : ∀ x M', Q x M' → Q' x M') : Cr G y d args M Q' := mCm.mono h (fun r M' q => by obtain ⟨x, e, q⟩ := q; exact ⟨x, e, hq x M' q⟩)
theorem Cv.mono {Q Q' : mM → Prop} (h : Cv G y d args M Q) (hq : ∀ M', Q M' → Q' M') : Cv G y d args M Q' := mCm.mono h (fun r M' q => by obtain ⟨e, q⟩ := q; exact ⟨e, hq M' q⟩)
end CK
end
