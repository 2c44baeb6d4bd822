section
section
variable {u : Ru} {M M' : mM} {r O P s c c' L a m x k kk : Nat} {gs t : List gqq} {od mq kn kn' : List Int} {ft ft' : Int × Int} {o d v : Int}
theorem RWc.keep (h : RWc u M r gs od mq kn ft) (h12 : mI M' r 12 = mI M r 12) (hT : ∀ i, 1 ≤ i → i ≤ 4 → mI M' (r + i) = mI M (r + i)) (t5 : Ls (mI M' (r + 5)) kn') (h14 : mI M' r 14 = kn'.length) (hf : FT M' r ft') (hd : mI M' r 5 = mI M r 5) : RWc u M' r gs od mq kn' ft' := by
  obtain ⟨⟨a1, a2, a3, a4, a5⟩, ⟨b1, b2⟩, c1, e1, q1, f1⟩ := h
  exact ⟨⟨by rw [hT 1 (by omega) (by omega)]; exact a1, by rw [hT 2 (by omega) (by omega)]; exact a2, by rw [hT 3 (by omega) (by omega)]; exact a3, by rw [hT 4 (by omega) (by omega)]; exact a4, t5⟩, ⟨by rw [h12]; exact b1, h14⟩, c1, hf, q1, by rw [hd]; exact f1⟩
theorem RWc.q6 (h : RWc u M r gs od mq kn ft) : uQ u ≤ 6 := h.2.2.2.2.1.1.2
theorem RWc.wo (h : RWc u M r gs od mq kn ft) : woq (uQ u) (ops gs) := h.2.2.2.2.1.2
theorem RWc.dp (h : RWc u M r gs od mq kn ft) : mI M r 5 = slv (uZ u) + lvs (ops gs) := h.2.2.2.2.2
theorem RWc.kl (h : RWc u M r gs od mq kn ft) : mI M r 12 = gs.length := h.2.1.1
theorem cdq0 {o : Int} (h : 19 ≤ o ∧ o ≤ 31) : cdq o = 0 := by unfold cdq; rw [if_neg (by omega)]
/-- a value -/
theorem RW1.val (h : RW1 u M r O P s L a) (hw : ruW u a = 1 ∨ ruW u a = 2 ∨ ruW u a = 12 ∨ ruW u a = 13) (h12 : mI M' r 12 = mI M r 12) (h5 : mI M' r 5 = mI M r 5) (hkk : mI M r 14 = kk) (h14 : mI M' r 14 = (kk : Int) + 1) (hT : ∀ i, 1 ≤ i → i ≤ 4 → mI M' (r + i) = mI M (r + i)) (t5 : ∀ i : Nat, mI M' (r + 5) i = if i = kk then kdq (ruW u) (uE u) 0 a (a + 1) else mI M (r + 5) i) (hO : ∀ i, mI M' O i = if i = L then (uC u a).1 else mI M O i) (hP : ∀ i, mI M' P i = if i = L then (uC u a).2 else mI M P i) (hF : Fqq M r (fl (ruW u) (uE u) (uP u) 0 a (a + 1)) M') : RW0 u M' r O P s 0 0 (L + 1) (a + 1) := by
  obtain ⟨gs, od, mq, kn, ft, h1, h2, h3, h4⟩ := h
  have hl : kk = kn.length := by have := h1.2.1.2; omega
  exact ⟨gs, od, mq, _, _, h1.keep h12 hT (h1.1.2.2.2.2.put (fun i => by rw [t5, hl])) (by rw [h14, hl]; rfl) (hF ft h1.2.2.2.1) h5, OPq.val h2 h3 hw (fun i hi => ⟨by rw [hO, if_neg (by omega)], by rw [hP, if_neg (by omega)]⟩) (by rw [hO, if_pos rfl]) (by rw [hP, if_pos rfl]), h4.trans (sim_val h1.q6 hw)⟩
theorem FT.same (h : FT M r ft) (h3 : mI M' r 3 = mI M r 3) (h4 : mI M' r 4 = mI M r 4) : FT M' r ft := ⟨by rw [h3]; exact h.1, fun q => by rw [h4]; exact h.2 q⟩
/-- where a '!' may stand -/
def myd (M : mM) (r : Nat) : Prop := mI M r 12 = 0 ∨ ∃ j : Nat, mI M r 12 = (j : Int) + 1 ∧ lvl (mI M (r + 1) j) < 4 ∧ mI M (r + 1) j ≠ 40
theorem RWc.rsl3 (h : RWc u M r gs od mq kn ft) : myd M r ↔ 3 ≤ rsl (uQ u) (ops gs) := by
  cases gs with
  | nil =>
    have e : mI M r 12 = 0 := h.kl
    exact ⟨fun _ => by have := h.2.2.2.2.1.1.1; show 3 ≤ uQ u; omega, fun _ => Or.inl e⟩
  | cons g t =>
    obtain ⟨o, m, x⟩ := g
    have hkl : mI M r 12 = ((t.length + 1 : Nat) : Int) := h.kl
    have hop : mI M (r + 1) t.length = o := by have := h.1.1.1; rw [List.length_map] at this; exact this
    have ho : opq o := h.wo.1
    show _ ↔ 3 ≤ rsq o
    have key : (lvl o < 4 ∧ o ≠ 40) ↔ 3 ≤ rsq o := by
      unfold opq at ho
      unfold lvl rsq
      constructor
      · intro q
        obtain ⟨q1, q2⟩ := q
        (repeat' split at q1) <;> (repeat' split) <;> omega
      · intro q
        (repeat' split at q) <;> (repeat' split) <;> omega
    rw [← key]
    constructor
    · intro q
      rcases q with q | ⟨j, q1, q2, q3⟩
      · omega
      · have : j = t.length := by omega
        rw [this, hop] at q2 q3
        exact ⟨q2, q3⟩
    · intro q
      exact Or.inr ⟨t.length, by omega, by rw [hop]; exact q.1, by rw [hop]; exact q.2⟩
end
end
