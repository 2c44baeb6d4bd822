/-! The class's reader: its steps over its piles in memory. -/
section RY
variable {u : Ru} {M M' : mM} {r O P s c c' L a m x k kk : Nat} {gs t : List gqq} {od mq kn kn' : List Int} {ft ft' : Int × Int} {o d v : Int}
theorem RWc.keep (h : RWc u M r gs od mq kn ft) (h12 : mI M' r 12 = mI M r 12) (hT : ∀ i, 1 ≤ i → i ≤ 4 → mI M' (r + i) = mI M (r + i)) (t5 : Ls (mI M' (r + 5)) kn') (h14 : mI M' r 14 = kn'.length) (hf : FT M' r ft') (hd : mI M' r 5 = mI M r 5) : RWc u M' r gs od mq kn' ft' := by
  obtain ⟨⟨a1, a2, a3, a4, a5⟩, ⟨b1, b2⟩, c1, e1, q1, f1⟩ := h
  exact ⟨⟨by rw [hT 1 (by omega) (by omega)]; exact a1, by rw [hT 2 (by omega) (by omega)]; exact a2, by rw [hT 3 (by omega) (by omega)]; exact a3, by rw [hT 4 (by omega) (by omega)]; exact a4, t5⟩, ⟨by rw [h12]; exact b1, h14⟩, c1, hf, q1, by rw [hd]; exact f1⟩
theorem RWc.q6 (h : RWc u M r gs od mq kn ft) : uQ u ≤ 6 := h.2.2.2.2.1.1.2
theorem RWc.wo (h : RWc u M r gs od mq kn ft) : woq (uQ u) (ops gs) := h.2.2.2.2.1.2
theorem RWc.dp (h : RWc u M r gs od mq kn ft) : mI M r 5 = slv (uZ u) + lvs (ops gs) := h.2.2.2.2.2
theorem RWc.kl (h : RWc u M r gs od mq kn ft) : mI M r 12 = gs.length := h.2.1.1
theorem cdq0 {o : Int} (h : 19 ≤ o ∧ o ≤ 31) : cdq o = 0 := by unfold cdq; rw [if_neg (by omega)]
/-- a value -/
theorem RW1.val (h : RW1 u M r O P s L a) (hw : ruW u a = 1 ∨ ruW u a = 2 ∨ ruW u a = 12 ∨ ruW u a = 13) (h12 : mI M' r 12 = mI M r 12) (h5 : mI M' r 5 = mI M r 5) (hkk : mI M r 14 = kk) (h14 : mI M' r 14 = (kk : Int) + 1) (hT : ∀ i, 1 ≤ i → i ≤ 4 → mI M' (r + i) = mI M (r + i)) (t5 : ∀ i : Nat, mI M' (r + 5) i = if i = kk then kdq (ruW u) (uE u) 0 a (a + 1) else mI M (r + 5) i) (hO : ∀ i, mI M' O i = if i = L then (uC u a).1 else mI M O i) (hP : ∀ i, mI M' P i = if i = L then (uC u a).2 else mI M P i) (hF : Fqq M r (fl (ruW u) (uE u) (uP u) 0 a (a + 1)) M') : RW0 u M' r O P s 0 0 (L + 1) (a + 1) := by
  obtain ⟨gs, od, mq, kn, ft, h1, h2, h3, h4⟩ := h
  have hl : kk = kn.length := by have := h1.2.1.2; omega
  exact ⟨gs, od, mq, _, _, h1.keep h12 hT (h1.1.2.2.2.2.put (fun i => by rw [t5, hl])) (by rw [h14, hl]; rfl) (hF ft h1.2.2.2.1) h5, OPq.val h2 h3 hw (fun i hi => ⟨by rw [hO, if_neg (by omega)], by rw [hP, if_neg (by omega)]⟩) (by rw [hO, if_pos rfl]) (by rw [hP, if_pos rfl]), h4.trans (sim_val h1.q6 hw)⟩
theorem FT.same (h : FT M r ft) (h3 : mI M' r 3 = mI M r 3) (h4 : mI M' r 4 = mI M r 4) : FT M' r ft := ⟨by rw [h3]; exact h.1, fun q => by rw [h4]; exact h.2 q⟩
/-- where a '!' may stand -/
def myd (M : mM) (r : Nat) : Prop := mI M r 12 = 0 ∨ ∃ j : Nat, mI M r 12 = (j : Int) + 1 ∧ lvl (mI M (r + 1) j) < 4 ∧ mI M (r + 1) j ≠ 40
theorem RWc.rsl3 (h : RWc u M r gs od mq kn ft) : myd M r ↔ 3 ≤ rsl (uQ u) (ops gs) := by
  cases gs with
  | nil =>
    have e : mI M r 12 = 0 := h.kl
    exact ⟨fun _ => by have := h.2.2.2.2.1.1.1; show 3 ≤ uQ u; omega, fun _ => Or.inl e⟩
  | cons g t =>
    obtain ⟨o, m, x⟩ := g
    have hkl : mI M r 12 = ((t.length + 1 : Nat) : Int) := h.kl
    have hop : mI M (r + 1) t.length = o := by have := h.1.1.1; rw [List.length_map] at this; exact this
    have ho : opq o := h.wo.1
    show _ ↔ 3 ≤ rsq o
    have key : (lvl o < 4 ∧ o ≠ 40) ↔ 3 ≤ rsq o := by
      unfold opq at ho
      unfold lvl rsq
      constructor
      · intro q
        obtain ⟨q1, q2⟩ := q
        (repeat' split at q1) <;> (repeat' split) <;> omega
      · intro q
        (repeat' split at q) <;> (repeat' split) <;> omega
    rw [← key]
    constructor
    · intro q
      rcases q with q | ⟨j, q1, q2, q3⟩
      · omega
      · have : j = t.length := by omega
        rw [this, hop] at q2 q3
        exact ⟨q2, q3⟩
    · intro q
      exact Or.inr ⟨t.length, by omega, by rw [hop]; exact q.1, by rw [hop]; exact q.2⟩
/-- '(' , '-' , '!' -/
theorem RW1.lvl (h : RW1 u M r O P s L a) (ho : (o = 37 ∧ ruW u a = 36) ∨ (o = 40 ∧ ruW u a = 25) ∨ (o = 41 ∧ ruW u a = 31)) (hm : o = 41 → myd M r) (hlt : mI M r 5 < 40) (hk : mI M r 12 = k) (h12 : mI M' r 12 = (k : Int) + 1) (h5 : mI M' r 5 = mI M r 5 + 1) (h3 : mI M' r 3 = mI M r 3) (h4 : mI M' r 4 = mI M r 4) (h14 : mI M' r 14 = mI M r 14) (t1 : ∀ i, mI M' (r + 1) i = if i = k then o else mI M (r + 1) i) (t2 : ∀ i, mI M' (r + 2) i = if i = k then uP u a else mI M (r + 2) i) (t3 : ∀ i, mI M' (r + 3) i = if i = k then -1 else mI M (r + 3) i) (t4 : ∀ i, mI M' (r + 4) i = if i = k then 0 else mI M (r + 4) i) (t5 : mI M' (r + 5) = mI M (r + 5)) (hO : mI M' O = mI M O) (hP : mI M' P = mI M P) : RW1 u M' r O P s L (a + 1) := by
  obtain ⟨gs, od, mq, kn, ft, q1, q2, q3, q4⟩ := h
  have hl : k = gs.length := by have := q1.kl; omega
  subst hl
  have hd : slv (uZ u) + lvs (ops gs) < 40 := by rw [← q1.dp]; exact hlt
  have hc : cst o ≤ rsl (uQ u) (ops gs) := by
    rcases ho with ⟨e, -⟩ | ⟨e, -⟩ | ⟨e, -⟩
    · subst e; exact Nat.zero_le _
    · subst e; exact Nat.zero_le _
    · have := q1.rsl3.mp (hm e)
      subst e
      exact this
  refine ⟨(o, a, a + 1) :: gs, -1 :: od, 0 :: mq, kn, ft, q1.push (by rw [h12, hk]) t1 t2 t3 t4 (by rw [t5]; exact q1.1.2.2.2.2) (by rw [h14]; exact q1.2.1.2) (q1.2.2.2.1.same h3 h4) (by rw [h5]; rcases ho with ⟨e, -⟩ | ⟨e, -⟩ | ⟨e, -⟩ <;> subst e <;> rfl) (by unfold opq; omega) hc, ?_, rfl, ?_⟩
  · rw [hO, hP]
    exact q2.pre q3 ho
  · rcases ho with ⟨e, hx⟩ | ⟨e, hx⟩ | ⟨e, hx⟩
    · subst e; exact q4.trans (sim_open q1.q6 q1.wo hx hd)
    · subst e; exact q4.trans (sim_neg q1.q6 q1.wo hx hd)
    · subst e; exact q4.trans (sim_not q1.q6 q1.wo hc hx hd)
/-- least, most -/
theorem RW1.lst (h : RW1 u M r O P s L a) (ho : o = 15 ∨ o = 16) (hw : ruW u a = o - 1) (hw1 : ruW u (a + 1) = 36) (hlt : mI M r 5 < 40) (hk : mI M r 12 = k) (h12 : mI M' r 12 = (k : Int) + 1) (h5 : mI M' r 5 = mI M r 5 + 1) (h3 : mI M' r 3 = mI M r 3) (h4 : mI M' r 4 = mI M r 4) (h14 : mI M' r 14 = mI M r 14) (t1 : ∀ i, mI M' (r + 1) i = if i = k then o else mI M (r + 1) i) (t2 : ∀ i, mI M' (r + 2) i = if i = k then uP u a else mI M (r + 2) i) (t3 : ∀ i, mI M' (r + 3) i = if i = k then -1 else mI M (r + 3) i) (t4 : ∀ i, mI M' (r + 4) i = if i = k then 0 else mI M (r + 4) i) (t5 : mI M' (r + 5) = mI M (r + 5)) (hO : mI M' O = mI M O) (hP : mI M' P = mI M P) : RW1 u M' r O P s L (a + 2) := by
  obtain ⟨gs, od, mq, kn, ft, q1, q2, q3, q4⟩ := h
  have hl : k = gs.length := by have := q1.kl; omega
  subst hl
  have hd : slv (uZ u) + lvs (ops gs) < 40 := by rw [← q1.dp]; exact hlt
  have hc : cst o ≤ rsl (uQ u) (ops gs) := by rcases ho with e | e <;> subst e <;> exact Nat.zero_le _
  refine ⟨(o, a, a + 2) :: gs, -1 :: od, 0 :: mq, kn, ft, q1.push (by rw [h12, hk]) t1 t2 t3 t4 (by rw [t5]; exact q1.1.2.2.2.2) (by rw [h14]; exact q1.2.1.2) (q1.2.2.2.1.same h3 h4) (by rw [h5]; rcases ho with e | e <;> subst e <;> rfl) (by unfold opq; omega) hc, ?_, rfl, q4.trans (sim_list ho q1.q6 q1.wo (by omega) hw1 hd)⟩
  rw [hO, hP]
  exact q2.lst q3 ho hw hw1
/-- an operand that can't begin so -/
theorem RW1.no (h : RW1 u M r O P s L a) (hx : ¬ (ruW u a = 1 ∨ ruW u a = 2 ∨ ruW u a = 12 ∨ ruW u a = 13 ∨ ruW u a = 14 ∨ ruW u a = 15) ∧ (ruW u a = 25 ∨ ruW u a = 36 → ¬ mI M r 5 < 40) ∧ (ruW u a = 31 → ¬ (myd M r ∧ mI M r 5 < 40))) : Rf (ruW u) (uS u) (uK u) a := by
  obtain ⟨gs, od, mq, kn, ft, q1, q2, q3, q4⟩ := h
  refine q4.rf ?_
  obtain ⟨h1, h2, h3⟩ := hx
  rw [q1.dp] at h2 h3
  by_cases c1 : ruW u a = 25
  · exact sim_neg_no q1.q6 q1.wo c1 (h2 (Or.inl c1))
  · by_cases c2 : ruW u a = 36
    · exact sim_open_no q1.q6 q1.wo c2 (h2 (Or.inr c2))
    · by_cases c3 : ruW u a = 31
      · exact sim_not_no q1.q6 q1.wo c3 (fun q => h3 c3 ⟨q1.rsl3.mpr q.1, q.2⟩)
      · exact sim_no q1.q6 (by omega)
theorem RW1.lst_no (h : RW1 u M r O P s L a) (hw : ruW u a = 14 ∨ ruW u a = 15) (hx : ¬ (ruW u (a + 1) = 36 ∧ mI M r 5 < 40)) : Rf (ruW u) (uS u) (uK u) (a + 1) := by
  obtain ⟨gs, od, mq, kn, ft, q1, q2, q3, q4⟩ := h
  rw [q1.dp] at hx
  exact q4.rf (sim_list_no q1.q6 q1.wo hw hx)
/-- the latest operation -/
theorem RW0.cases (h : RW0 u M r O P s c c' L a) (hk : mI M r 12 = (k : Int) + 1) (ho : mI M (r + 1) k = o) : ∃ m x t od mq kn ft, t.length = k ∧ RWc u M r ((o, m, x) :: t) od mq kn ft ∧ OPq (ruW u) (uE u) (uP u) (mI M O) (mI M P) (uC u) (ruI u) s (uF u) c ((o, m, x) :: t) od mq kn ft L a ∧ Rc (ruW u) (uS u) (uK u) (gyR (uZ u) (uQ u) c' (o :: ops t)) a := by
  obtain ⟨gs, od, mq, kn, ft, q1, q2, q3⟩ := h
  cases gs with
  | nil =>
    have e : mI M r 12 = 0 := q1.kl
    omega
  | cons g t =>
    obtain ⟨o', m, x⟩ := g
    have hkl : mI M r 12 = ((t.length + 1 : Nat) : Int) := q1.kl
    have hop : mI M (r + 1) t.length = o' := by have := q1.1.1.1; rw [List.length_map] at this; exact this
    have e : t.length = k := by omega
    rw [e, ho] at hop
    subst hop
    exact ⟨m, x, t, od, mq, kn, ft, e, q1, q2, q3⟩
/-- '-' or '!' before an operand is grouped -/
theorem RW0.gun (h : RW0 u M r O P s c c' L a) (hk : mI M r 12 = (k : Int) + 1) (ho : mI M (r + 1) k = o) (ho2 : o = 40 ∨ o = 41) (hc : c ≤ rsq o) (hm : lwx (ruW u a) ≤ c' ∨ rsq o < lwx (ruW u a)) (h12 : mI M' r 12 = k) (h5 : mI M' r 5 = mI M r 5 - 1) (hkk : mI M r 14 = (kk : Int) + 1) (h14 : mI M' r 14 = (kk : Int) + 1) (hT : ∀ i, 1 ≤ i → i ≤ 4 → mI M' (r + i) = mI M (r + i)) (t5 : ∀ i : Nat, mI M' (r + 5) i = if i = kk then (if o = 41 then 1 else 0) else mI M (r + 5) i) (hF : Fqq M r (kft (mI M (r + 5) kk = if o = 41 then 1 else 0) (mI M (r + 2) k)) M') (hO : ∀ i, mI M' O i = if i = L then o else mI M O i) (hP : ∀ i, mI M' P i = if i = L then mI M (r + 2) k else mI M P i) : RW0 u M' r O P s (cst o) (pst o) (L + 1) a := by
  obtain ⟨m, x, t, od, mq, kn, ft, e, q1, q2, q3⟩ := h.cases hk ho
  subst e
  obtain ⟨od', mq', last, kn', e1, e2, e3, hl, g⟩ := q2.gpre ho2 hc
  subst e1 e2 e3
  obtain ⟨-, p2, -, -, -⟩ := q1.hd
  obtain ⟨k1, k2⟩ := q1.kn1
  have hkl : kk = kn'.length := by have : mI M r 14 = ((kn'.length + 1 : Nat) : Int) := q1.2.1.2; omega
  subst hkl
  rw [p2, k1] at hF
  rw [p2] at hP
  exact ⟨t, od', mq', _, _, q1.pop (by rw [h12, hk]; omega) (fun i i1 i4 j _ => by rw [hT i i1 i4]) (k2.put t5) (by rw [h14]; rfl) (hF ft q1.2.2.2.1) (by rw [h5]; rcases ho2 with e | e <;> subst e <;> rfl), g _ _ (fun i hi => ⟨by rw [hO, if_neg (by omega)], by rw [hP, if_neg (by omega)]⟩) (by rw [hO, if_pos rfl]) (by rw [hP, if_pos rfl]), q3.trans (sim_pop q1.q6 q1.wo (Or.inr (by omega)) hm)⟩
/-- a sign between two operands is grouped -/
theorem RW0.gbin (h : RW0 u M r O P s c c' L a) (hk : mI M r 12 = (k : Int) + 1) (ho : mI M (r + 1) k = o) (ho2 : 19 ≤ o ∧ o ≤ 29) (hc : c ≤ rsq o) (hm : lwx (ruW u a) ≤ c' ∨ rsq o < lwx (ruW u a)) (h12 : mI M' r 12 = k) (h5 : mI M' r 5 = mI M r 5) (hkk : mI M r 14 = (kk : Int) + 2) (h14 : mI M' r 14 = (kk : Int) + 1) (hT : ∀ i, 1 ≤ i → i ≤ 4 → mI M' (r + i) = mI M (r + i)) (t5 : ∀ i : Nat, mI M' (r + 5) i = if i = kk then (if o ≤ 24 then 1 else 0) else mI M (r + 5) i) (hF : Fqq M r (kft (okq (o - 1) (mI M (r + 5) kk) (mI M (r + 5) (kk + 1))) (mI M (r + 2) k)) M') (hO : ∀ i, mI M' O i = if i = L then o else mI M O i) (hP : ∀ i, mI M' P i = if i = L then mI M (r + 2) k else mI M P i) : RW0 u M' r O P s (cst o) (pst o) (L + 1) a := by
  obtain ⟨m, x, t, od, mq, kn, ft, e, q1, q2, q3⟩ := h.cases hk ho
  subst e
  obtain ⟨od', mq', last, left, kn', e1, e2, e3, hl, g⟩ := q2.gbin ho2 hc
  subst e1 e2 e3
  obtain ⟨-, p2, -, -, -⟩ := q1.hd
  obtain ⟨k1, k2, k3⟩ := q1.kn1
  have hkl : kk = kn'.length := by have : mI M r 14 = ((kn'.length + 2 : Nat) : Int) := q1.2.1.2; omega
  subst hkl
  have k1 : mI M (r + 5) (kn'.length + 1) = last := k1
  rw [p2, k1, k2] at hF
  rw [p2] at hP
  exact ⟨t, od', mq', _, _, q1.pop (by rw [h12, hk]; omega) (fun i i1 i4 j _ => by rw [hT i i1 i4]) (k3.put t5) (by rw [h14]; rfl) (hF ft q1.2.2.2.1) (by rw [h5, cdq0 (by omega)]; omega), g _ _ (fun i hi => ⟨by rw [hO, if_neg (by omega)], by rw [hP, if_neg (by omega)]⟩) (by rw [hO, if_pos rfl]) (by rw [hP, if_pos rfl]), q3.trans (sim_pop q1.q6 q1.wo (Or.inl (by omega)) hm)⟩
/-- '&' or '|' is grouped -/
theorem RW0.gjmp {dd : Nat} (h : RW0 u M r O P s c c' L a) (hk : mI M r 12 = (k : Int) + 1) (ho : mI M (r + 1) k = o) (ho2 : o = 30 ∨ o = 31) (hc : c ≤ rsq o) (hm : lwx (ruW u a) ≤ c' ∨ rsq o < lwx (ruW u a)) (h12 : mI M' r 12 = k) (h5 : mI M' r 5 = mI M r 5) (hkk : mI M r 14 = (kk : Int) + 2) (h14 : mI M' r 14 = (kk : Int) + 1) (hT : ∀ i, 1 ≤ i → i ≤ 4 → mI M' (r + i) = mI M (r + i)) (t5 : ∀ i : Nat, mI M' (r + 5) i = if i = kk then 1 else mI M (r + 5) i) (hF : Fqq M r (kft (okq (o - 1) (mI M (r + 5) kk) (mI M (r + 5) (kk + 1))) (mI M (r + 2) k)) M') (hd : mI M (r + 3) k = dd) (hO : ∀ i, mI M' O i = mI M O i) (hP : ∀ i, mI M' P i = if i = dd then (L : Int) else mI M P i) : RW0 u M' r O P s (cst o) (pst o) L a := by
  obtain ⟨m, x, t, od, mq, kn, ft, e, q1, q2, q3⟩ := h.cases hk ho
  subst e
  obtain ⟨d9, od', mq', last, left, kn', e1, e2, e3, hl, hdL, g⟩ := q2.gjmp ho2 hc
  subst e1 e2 e3
  obtain ⟨-, p2, p3, -, -⟩ := q1.hd
  obtain ⟨k1, k2, k3⟩ := q1.kn1
  have hkl : kk = kn'.length := by have : mI M r 14 = ((kn'.length + 2 : Nat) : Int) := q1.2.1.2; omega
  subst hkl
  have k1 : mI M (r + 5) (kn'.length + 1) = last := k1
  have hdd : dd = d9 := by rw [hd] at p3; omega
  subst hdd
  rw [p2, k1, k2] at hF
  exact ⟨t, od', mq', _, _, q1.pop (by rw [h12, hk]; omega) (fun i i1 i4 j _ => by rw [hT i i1 i4]) (k3.put t5) (by rw [h14]; rfl) (hF ft q1.2.2.2.1) (by rw [h5, cdq0 (by omega)]; omega), g _ _ (fun i hi => hO i) (fun i hi hn => by rw [hP, if_neg hn]) (by rw [hP, if_pos rfl]), q3.trans (sim_pop q1.q6 q1.wo (Or.inl (by omega)) hm)⟩
/-- '?' with its ':' is grouped -/
theorem RW0.gels {dd : Nat} (h : RW0 u M r O P s c c' L a) (hk : mI M r 12 = (k : Int) + 1) (ho : mI M (r + 1) k = 42) (hc : c ≤ 6) (hm : lwx (ruW u a) ≤ c') (h12 : mI M' r 12 = k) (h5 : mI M' r 5 = mI M r 5 - 1) (hkk : mI M r 14 = (kk : Int) + 1) (h14 : mI M' r 14 = (kk : Int) + 1) (hT : ∀ i, 1 ≤ i → i ≤ 4 → mI M' (r + i) = mI M (r + i)) (t5 : ∀ i : Nat, mI M' (r + 5) i = mI M (r + 5) i) (hF : Fqq M r (kft (mI M (r + 4) k = if mI M (r + 5) kk = 1 then 4 else 0) (mI M (r + 2) k)) M') (hd : mI M (r + 3) k = dd) (hO : ∀ i, mI M' O i = mI M O i) (hP : ∀ i, mI M' P i = if i = dd then (L : Int) else mI M P i) : RW0 u M' r O P s 6 6 L a := by
  obtain ⟨m, x, t, od, mq, kn, ft, e, q1, q2, q3⟩ := h.cases hk ho
  subst e
  obtain ⟨d9, od', k9, mq', last, kn', e1, e2, e3, hl, hdL, g⟩ := q2.gels hc
  subst e1 e2 e3
  obtain ⟨-, p2, p3, p4, -⟩ := q1.hd
  obtain ⟨k1, k2⟩ := q1.kn1
  have hkl : kk = kn'.length := by have : mI M r 14 = ((kn'.length + 1 : Nat) : Int) := q1.2.1.2; omega
  subst hkl
  have hdd : dd = d9 := by rw [hd] at p3; omega
  subst hdd
  rw [p2, p4, k1] at hF
  exact ⟨t, od', mq', last :: kn', _, q1.pop (by rw [h12, hk]; omega) (fun i i1 i4 j _ => by rw [hT i i1 i4]) (q1.1.2.2.2.2.cg (fun i _ => t5 i)) (by rw [h14]; rfl) (hF ft q1.2.2.2.1) (by rw [h5]; rfl), g _ _ (fun i hi => hO i) (fun i hi hn => by rw [hP, if_neg hn]) (by rw [hP, if_pos rfl]), q3.trans (sim_pop q1.q6 q1.wo (Or.inr (by omega)) (Or.inl hm))⟩
end RY
