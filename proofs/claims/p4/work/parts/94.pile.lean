/-! The reference: the pile of what is wanted. -/
/-- the list at p holds st, top first -/
def St (M : mM) (p : Nat) (st : List Int) : Prop := ln M p = st.length ∧ ∀ i, i < st.length → nt M p (st.length - 1 - i) = st.getD i 0
theorem St.add {M M' : mM} {p B : Nat} {v : Int} {st : List Int} (h : St M p st) (t : adB B M p v M') : St M' p (v :: st) := by
  obtain ⟨h1, h2⟩ := h
  obtain ⟨-, -, -, t4, t5, t6, -⟩ := t
  refine ⟨by rw [t4, h1, List.length_cons]; omega, fun i hi => ?_⟩
  rw [List.length_cons] at hi ⊢
  cases i with
  | zero =>
    rw [show st.length + 1 - 1 - 0 = (ln M p).toNat by omega, t6]
    rfl
  | succ i =>
    rw [t5 _ (by omega), show st.length + 1 - 1 - (i + 1) = st.length - 1 - i by omega, h2 i (by omega)]
    rfl
theorem St.take {M M' : mM} {p : Nat} {x y : Int} {st : List Int} (h : St M p (x :: st)) (t : tkQ M p y M') : St M' p st ∧ y = x := by
  obtain ⟨h1, h2⟩ := h
  obtain ⟨-, -, -, t4, t5, t6⟩ := t
  rw [List.length_cons] at h1 h2
  refine ⟨⟨by omega, fun i hi => ?_⟩, ?_⟩
  · rw [t5]
    have a := h2 (i + 1) (by omega)
    rw [show st.length + 1 - 1 - (i + 1) = st.length - 1 - i by omega] at a
    rw [a]
    rfl
  · have a := h2 0 (by omega)
    rw [t6, show (ln M p - 1).toNat = st.length + 1 - 1 - 0 by omega, a]
    rfl
theorem St.same {M M' : mM} {p : Nat} {st : List Int} (h : St M p st) (s : sameN M M' p) : St M' p st := by
  obtain ⟨h1, h2⟩ := h
  exact ⟨by rw [s.1]; exact h1, fun i hi => by rw [s.2.1]; exact h2 i hi⟩
abbrev qP (a : Nat) : Nat → Prop := fun x => x = a + 11
abbrev qS (a : Nat) : Nat → Prop := fun x => x = a
def SI (M : mM) (a : Nat) (st : List Int) (lv : Int) (M2 : mM) : Prop := Mv (qP a) (qS a) M a M2 ∧ (∀ j, j ≠ 7 → mI M2 a j = mI M a j) ∧ St M2 (a + 11) st ∧ mI M2 a 7 = lv
def dlv (x : Int) (ys : List Int) : Int := c75 ys - c76 ys + (if x = 76 then 1 else 0)
def pQ (M : mM) (a : Nat) (st : List Int) (x nx r : Int) (M' : mM) : Prop := Mv (qP a) (qS a) M a M' ∧ (∀ j, j ≠ 7 → mI M' a j = mI M a j) ∧ (r = -1 ∨ ∃ ys t, ex x nx = some (ys, t) ∧ r = (t : Int) ∧ St M' (a + 11) (ys ++ st) ∧ mI M' a 7 = mI M a 7 + dlv x ys ∧ (mI M' a 7 = mI M a 7 ∨ mI M' a 7 ≤ 40))
section PI
variable {G : mG} {d a : Nat} {M M2 : mM} {st : List Int} {lv : Int}
theorem q11 : a + 11 ∈ nums a := nums_o (by decide)
theorem SI.wd (h : SI M a st lv M2) : Wd M2 a := h.1.2.1
theorem SI.ok (h : SI M a st lv M2) : mOk M2 := h.1.1
theorem SI.k (h : SI M a st lv M2) : mK M2 a = 14 := h.wd.1.1
theorem SI.r6 (h : SI M a st lv M2) : mR M2 a 6 = a + 11 := h.wd.1.2.2.1.2.2.2
theorem SI.k6 (h : SI M a st lv M2) : mK M2 (a + 11) = 15 := (h.wd.nu q11).1
theorem SI.push {v : Int} (h : SI M a st lv M2) (hl : st.length ≤ 1000) (hv : i32 v) : Cv G y_MN_add d [vr (a + 11), vi v] M2 (fun M3 => SI M a (v :: st) lv M3) := by
  obtain ⟨m, f, s, l⟩ := h
  have w := m.2.1
  refine (s_MN_add hv m.1 (w.nu q11) (by rw [s.1]; omega)).mono (fun M3 t => ?_)
  have m3 := mv_add w q11 t
  have f3 := (m3.fld w (fun q hq => by rw [hq]; exact q11) (fun hq => hq)).1
  exact ⟨m.trans (m3.mono (fun q hq => hq) (fun x hx => hx.elim) (fun q hq => by rw [hq]; exact w.lt q11)), fun j hj => by rw [f3]; exact f j hj, s.add t, by rw [f3]; exact l⟩
theorem SI.level (h : SI M a st lv M2) (h1 : -1000000 ≤ lv) (h2 : lv ≤ 1000000) : Ci G y_MM_level d [vr a] M2 (fun r M3 => SI M a st (lv + 1) M3 ∧ (r = 0 ∨ r = 1) ∧ (r ≠ 0 → lv + 1 ≤ 40)) := by
  have hk := h.k
  obtain ⟨m, f, s, l⟩ := h
  have w := m.2.1
  refine k_MM_level m.1 ?_
  rw [l]
  refine ⟨hk, ⟨by omega, by omega⟩, fun M3 e3 v hv => ?_⟩
  obtain ⟨m3, f3⟩ := mv_fld ⟨by omega, by omega⟩ m.1 w e3
  have l3 : mI M3 a 7 = lv + 1 := by rw [f3, if_pos rfl]
  rw [l3] at hv
  have s3 := m3.2.2.2.2 _ q11 (fun hq => hq)
  exact ⟨⟨m.trans (m3.mono (fun q hq => hq.elim) (fun x hx => hx) (fun q hq => by rw [hq]; exact w.lt q11)), fun j hj => by rw [f3, if_neg hj]; exact f j hj, s.same s3, l3⟩, by split at hv <;> omega, fun q => by split at hv <;> omega⟩
/-- a step is done -/
theorem SI.done {x nx : Int} {ys : List Int} {t : Nat} (h : SI M a (ys ++ st) lv M2) (he : ex x nx = some (ys, t)) (hl : lv = mI M a 7 + dlv x ys) (h4 : lv = mI M a 7 ∨ lv ≤ 40) : pQ M a st x nx (t : Int) M2 :=
  ⟨h.1, h.2.1, Or.inr ⟨ys, t, he, rfl, h.2.2.1, by rw [h.2.2.2]; exact hl, by rw [h.2.2.2]; exact h4⟩⟩
theorem SI.fail {x nx : Int} {st' : List Int} (h : SI M a st' lv M2) : pQ M a st x nx (-1) M2 := ⟨h.1, h.2.1, Or.inl rfl⟩
theorem s_MM_want {u v w : Int} (h : SI M a st lv M2) (hl : st.length ≤ 900) (hu : i32 u) (hv : i32 v) (hw : i32 w) : Cv G y_MM_want (d + 1) [vr a, vi u, vi v, vi w] M2 (fun M3 => SI M a (u :: v :: w :: st) lv M3) := by
  refine k_MM_want h.ok hu hv hw ?_
  rw [h.r6]
  refine ⟨h.k, h.k6, (h.push (by omega) hw).mono (fun M3 h3 => ?_)⟩
  rw [h3.r6]
  refine ⟨h3.ok, h3.k, h3.k6, (h3.push (by rw [List.length_cons]; omega) hv).mono (fun M4 h4 => ?_)⟩
  rw [h4.r6]
  refine ⟨h4.ok, h4.k, h4.k6, (h4.push (by rw [List.length_cons, List.length_cons]; omega) hu).mono (fun M5 h5 => ⟨h5.ok, h5⟩)⟩
/-- two signs are put down -/
theorem SI.two {u v : Int} {Q : mM → Prop} (h : SI M a st lv M2) (hl : st.length ≤ 900) (hu : i32 u) (hv : i32 v) (hQ : ∀ M3, SI M a (v :: u :: st) lv M3 → Q M3) : Cv G y_MN_add d [vr (a + 11), vi u] M2 (fun M3 => mOk M3 ∧ (mK M3 a = 14 ∧ mK M3 (mR M3 a 6) = 15 ∧ Cv G y_MN_add d [vr (mR M3 a 6), vi v] M3 (fun M4 => mOk M4 ∧ Q M4))) := by
  refine (h.push (by omega) hu).mono (fun M3 h3 => ?_)
  rw [h3.r6]
  exact ⟨h3.ok, h3.k, h3.k6, (h3.push (by rw [List.length_cons]; omega) hv).mono (fun M4 h4 => ⟨h4.ok, hQ M4 h4⟩)⟩
theorem s_MM_again {g u v : Int} (h : SI M a st lv M2) (hl : st.length ≤ 900) (hg : i32 g) (hu : i32 u) (hv : i32 v) : Ci G y_MM_again (d + 1) [vr a, vi g, vi u, vi v] M2 (fun r M3 => (g = 0 ∧ r = 0 ∧ M3 = M2) ∨ (g ≠ 0 ∧ r = 1 ∧ SI M a (v :: u :: st) lv M3)) := by
  refine k_MM_again h.ok hg hu hv ?_
  rw [h.r6]
  exact ⟨fun w => Or.inl ⟨w, rfl, rfl⟩, fun w => ⟨h.k, h.k6, h.two hl hu hv (fun M3 h3 => Or.inr ⟨w, rfl, h3⟩)⟩⟩
theorem s_MM_ask (h : SI M a st lv M2) (hl : st.length ≤ 800) (h1 : -1000 ≤ lv) (h2 : lv ≤ 1000) : Ci G y_MM_ask (d + 2) [vr a] M2 (fun r M3 => SI M a (61 :: 33 :: 61 :: 75 :: st) (lv + 1) M3 ∧ (r = -1 ∨ (r = 1 ∧ lv + 1 ≤ 40))) := by
  refine k_MM_ask h.ok ?_
  rw [h.r6]
  refine ⟨h.k, h.k6, (h.push (by omega) ⟨by omega, by omega⟩).mono (fun M3 h3 => ⟨h3.ok, h3.k, (s_MM_want (d := d) h3 (by rw [List.length_cons]; omega) ⟨by omega, by omega⟩ ⟨by omega, by omega⟩ ⟨by omega, by omega⟩).mono (fun M4 h4 => ⟨h4.ok, h4.k, (h4.level (by omega) (by omega)).mono (fun r M5 h5 => ?_)⟩)⟩)⟩
  obtain ⟨h5, r1, r2⟩ := h5
  refine ⟨⟨by omega, by omega⟩, h5.ok, fun v hv => ⟨h5, ?_⟩⟩
  by_cases q : r = 0
  · rw [if_pos q] at hv; exact Or.inl hv
  · rw [if_neg q] at hv; exact Or.inr ⟨hv, r2 q⟩
theorem s_MM_isComparison {x : Int} (hx : i32 x) (hO : mOk M2) : Ci G y_MM_isComparison d [vi x] M2 (fun r M3 => M3 = M2 ∧ (r = 0 ∨ r = 1) ∧ (r ≠ 0 ↔ (18 ≤ x ∧ x ≤ 23))) := by
  refine k_MM_isComparison hO hx (fun v hv => ⟨rfl, ?_, ?_⟩)
  · split at hv <;> omega
  · split at hv <;> omega
end PI
