/-! The class's top: steps of its numbers; the room they take. -/
section NCN
variable {G : mG} {d t g s b i j a Ra n cn cc bc z w R' k' : Nat} {v R k Rn kn : Nat → Nat} {M M0 M' M1 : mM} {L L' : List Nat} {W : Nat → Nat} {T C S Z : Nat → Prop} {r : Prop}
/-- the room of a table's array: the last growth may be a small one -/
def pk4 (k : Nat) : Nat := 2 * k + (if k = 512 then 512 else 0)
def Pn (L : List Nat) (k : Nat → Nat) (M : mM) : Nat := 2 * psum (cp M) L + (pk4 (k 0) + pk4 (k 1) + pk4 (k 2) + pk4 (k 3)) + k 4
def Qn (L : List Nat) (k : Nat → Nat) (M : mM) : Nat := psum (fun p => cp M p / 4) L + 4 * (k 0 + k 1 + k 2 + k 3) + k 4 / 2400
/-- the room that a step of numbers takes -/
def Rq (L : List Nat) (k : Nat → Nat) (M : mM) (L' : List Nat) (kn : Nat → Nat) (M' : mM) : Prop := mS M' + Pn L k M ≤ mS M + Pn L' kn M' ∧ mZ M' + Qn L k M ≤ mZ M + Qn L' kn M' ∧ L'.length + 2 * (k 0 + k 1 + k 2 + k 3) ≤ L.length + 2 * (kn 0 + kn 1 + kn 2 + kn 3) ∧ (∀ x, x ∈ L → x ∈ L') ∧ ∀ f, FrL L M f → FrL L' M' f
theorem Rq.refl : Rq L k M L k M := ⟨Nat.le_refl _, Nat.le_refl _, Nat.le_refl _, fun _ u => u, fun _ u => u⟩
theorem Rq.trans {L1 : List Nat} {k1 : Nat → Nat} (h : Rq L k M L1 k1 M1) (q : Rq L1 k1 M1 L' kn M') : Rq L k M L' kn M' := by
  obtain ⟨h1, h2, h3, h4, h5⟩ := h
  obtain ⟨q1, q2, q3, q4, q5⟩ := q
  exact ⟨by omega, by omega, by omega, fun x u => q4 x (h4 x u), fun f u => q5 f (h5 f u)⟩
theorem NX.rq (q : NX L W T C r z M M') (hF : NF L W M) : Rq L k M L k M' := by
  obtain ⟨h1, h2⟩ := q.2.2.2.2
  unfold Rq Pn Qn
  exact ⟨by omega, by omega, Nat.le_refl _, fun _ u => u, fun f u => (q.frl hF u).1⟩
theorem FI.rq (f : FI S M M') : Rq L k M L k M' := by
  have cc : cp M' = cp M := by funext x; unfold cp; rw [f.2.2.1, f.2.1]
  unfold Rq Pn Qn
  rw [cc, f.2.2.2.2.1, f.2.2.2.2.2.1]
  exact ⟨Nat.le_refl _, Nat.le_refl _, Nat.le_refl _, fun _ u => u, fun x u => u.fi f⟩
/-- a sum over four places of which one has changed -/
theorem four_up {f : Nat → Nat} (i4 : i < 4) : f (up1 k i k' 0) + f (up1 k i k' 1) + f (up1 k i k' 2) + f (up1 k i k' 3) + f (k i) = f (k 0) + f (k 1) + f (k 2) + f (k 3) + f k' := by
  have : i = 0 ∨ i = 1 ∨ i = 2 ∨ i = 3 := by omega
  rcases this with e | e | e | e <;> subst e <;> simp only [up1] <;> simp <;> omega
theorem rv_rq (i4 : i < 4) (gw : Gw L W w M L' M') (h : (M' = M ∧ L' = L ∧ R' = R i ∧ k' = k i) ∨ rvG L M (R i) (k i) L' M' R' k') : Rq L k M L' (up1 k i k') M' := by
  have l1 := gw.2.2.1
  have lf : ∀ f, FrL L M f → FrL L' M' f := fun f u => (gw.frl u).1
  clear gw
  have f1 := four_up (k := k) (k' := k') (f := pk4) i4
  have f2 := four_up (k := k) (k' := k') (f := fun x => x) i4
  have f4 : up1 k i k' 4 = k 4 := up1_n (by omega)
  rcases h with ⟨e1, e2, -, e4⟩ | ⟨-, ⟨c1, c2, c3⟩, l, ⟨z1, z2⟩, p1, p2⟩
  · subst e1 e2
    rw [e4] at f1 f2 f4 ⊢
    unfold Rq Pn Qn
    exact ⟨by omega, by omega, by omega, l1, lf⟩
  · have pk1 : pk4 (k i) + k' ≤ pk4 k' := by
      unfold pk4
      rw [if_neg (by omega)]
      split <;> omega
    unfold Rq Pn Qn
    exact ⟨by omega, by omega, by omega, l1, lf⟩
/-- ints of other cells change -/
theorem Nms.fi (h : Nms L W s g b cn cc bc v R k M) (f : FI S M M') (o : mOk M') (hS : ∀ x, S x → Oc L M x ∧ mK M x ≠ 11) (sb' : Sb L W s g cn cc bc M') (e1 : ∀ j, j < 4 → j ≠ 2 → mI M' (v j) 1 = mI M (v j) 1 ∨ mI M' (v j) 1 = 0) : Nms L W s g b cn cc bc v R k M' := by
  obtain ⟨sb, tb, ⟨b1, b2⟩, tk⟩ := h
  exact ⟨sb', tb.fi f, ⟨b1, by rw [f.2.2.2.2.1]; exact b2⟩, fun j hj j2 => (tk j hj j2).fi (tb.1 j hj) sb.2.1.1 f o sb.2.1.2.1.z9 hS (e1 j hj j2)⟩
theorem Nms.nx23 (h : Nms L W s g b cn cc bc v R k M) (i4 : i < 4) (q : NX L W T C r (s + 1) M M') (hn : n ≤ k i) (hT : ∀ x, T x → (s ≤ x ∧ x ≤ s + 134) ∨ Trw M (R i) n x) (hC : ∀ x, C x → (s ≤ x ∧ x ≤ s + 134) ∨ Irw M (R i) n x ∨ mK M x = 30) (sb' : Sb L W s g cn cc bc M') (ti : i ≠ 2 → Tk M' cn (v i) (R i) (k i)) : Nms L W s g b cn cc bc v R k M' := by
  obtain ⟨a1, a2, a3⟩ := h.nx3 i4 q hn hT hC
  refine ⟨sb', a1, ⟨h.2.2.1.1, Nat.le_trans h.2.2.1.2 q.2.2.1.1.1⟩, fun j hj j2 => ?_⟩
  by_cases c : j = i
  · subst c; exact ti j2
  · exact a3 j hj j2 c
theorem Nms.nx2 (h : Nms L W s g b cn cc bc v R k M) (i4 : i < 4) (q : NX L W T C r (s + 1) M M') (hn : n ≤ k i) (hT : ∀ x, T x → (s ≤ x ∧ x ≤ s + 134) ∨ Trw M (R i) n x) (hC : ∀ x, C x → (s ≤ x ∧ x ≤ s + 134) ∨ Irw M (R i) n x) (sb' : Sb L W s g cn cc bc M') (ti : i ≠ 2 → Tk M' cn (v i) (R i) (k i)) : Nms L W s g b cn cc bc v R k M' := h.nx23 i4 q hn hT (fun x u => (hC x u).imp id Or.inl) sb' ti
/-- one table grows, which isn't known -/
theorem Nms.gw (h : Nms L W s g b cn cc bc v R k M) (i4 : i < 4) (q : Gw L W (v i) M L' M') (te : Te L' W (s + 1) g (v i) R' k' M') (k5 : k' ≤ 512) (gr : (M' = M ∧ L' = L ∧ R' = R i ∧ k' = k i) ∨ rvG L M (R i) (k i) L' M' R' k') (p1 : ∀ j, j < k i → mR M' R' j = mR M (R i) j) (p2 : ∀ j, k i ≤ j → j < k' → mR M' R' j = mZ M + 1 + 5 * (j - k i)) (fl : mI M (v i) 1 = 0) : Nms L' W s g b cn cc bc v (up1 R i R') (up1 k i k') M' ∧ Sva L' W s g (v i) R' k' cn cc bc M' := by
  obtain ⟨sb, tb, ⟨b1, b2⟩, tk⟩ := h
  have gr' : R' = R i ∨ R' = mZ M := by
    rcases gr with e | e
    · exact Or.inl e.2.2.1
    · exact Or.inr e.1
  have tb' := tb.gw b2 i4 q te.2.2.1 te.2.2.2.2 k5 gr' p1 p2
  have ti' := tb'.1 i i4
  rw [up1_s, up1_s] at ti'
  obtain ⟨sv', -, -⟩ := (sb.sva b1 (tb.1 i i4)).gw q te (fun j hj => by have := ti'.2.1 j hj; omega)
  have ei : ∀ j, j < 4 → mI M' (v j) = mI M (v j) := fun j hj => (q.2.2.2.2.1.2 _ (tb.1 j hj).1.2.2.2.2.1.1.1).2.2.2.2 (fun u => u)
  refine ⟨⟨sv'.sb, tb', ⟨b1, Nat.le_trans b2 q.2.2.2.2.1.1.1⟩, fun j hj j2 => ?_⟩, sv'⟩
  by_cases c : j = i
  · subst c
    rw [up1_s, up1_s]
    intro kn
    rw [ei j hj] at kn
    exact absurd fl kn
  · rw [up1_n c, up1_n c]
    exact (tk j hj j2).gw (tb.1 j hj) q (tb.2 j i hj i4 c).2.1
/-- its cells -/
theorem Gw.fc (q : Gw L W (v i) M L' M') (i4 : i < 4) (hc : Cnu Z L s v R k M) (tb : Tb0 L M s b v R k) (te : Te L' W (s + 1) g (v i) R' k' M') (gr : (M' = M ∧ L' = L ∧ R' = R i ∧ k' = k i) ∨ rvG L M (R i) (k i) L' M' R' k') (p1 : ∀ j, j < k i → mR M' R' j = mR M (R i) j) (p2 : ∀ j, k i ≤ j → j < k' → mR M' R' j = mZ M + 1 + 5 * (j - k i)) : FC Z M M' ∧ Cnu (Zn Z M M') L' s v (up1 R i R') (up1 k i k') M' := by
  obtain ⟨c1, c2, c3, c4, c5, c6⟩ := hc
  have vi5 := (tb.1 i i4).2.2.2.2.1
  have l2 := q.2.2.2.1
  have f := q.2.2.2.2.1
  have fl := te.2.2.1.2.2.2.2.2
  refine ⟨f.fc (fun _ u => u.elim) (fun x u => by rw [u]; exact (c3 i i4).1), fun x a1 a2 => Or.inl (c1 x a1 a2), fun a ha => ?_, fun j hj => ⟨Or.inl (c3 j hj).1, ?_⟩, by rw [up1_n (show 4 ≠ i by omega)]; exact Or.inl c4, by rw [up1_n (show 4 ≠ i by omega), up1_n (show 4 ≠ i by omega)]; exact c5.gw q (by omega) c6.1, q.oc c6⟩
  · have lt := q.2.1.2.lt ha
    rcases l2 a ha with u | u
    · rw [(q.rf u).1]
      exact ⟨Or.inl (c2 a u).1, Or.inl (c2 a u).2⟩
    · exact ⟨Or.inr ⟨by omega, lt.1⟩, Or.inr ⟨by omega, lt.2⟩⟩
  · by_cases c : j = i
    · subst c
      rw [up1_s, up1_s]
      refine ⟨?_, fun l hl => ?_⟩
      · rcases gr with e | e
        · rw [e.2.2.1]; exact Or.inl (c3 j hj).2.1
        · rw [e.1]; exact Or.inr ⟨Nat.le_refl _, by have := e.2.2.2.1.1; omega⟩
      · by_cases cl : l < k j
        · rw [p1 l cl]; exact Or.inl ((c3 j hj).2.2 l cl)
        · have z := (fl l hl).1.2.2
          have e := p2 l (by omega) hl
          exact Or.inr ⟨by omega, z⟩
    · rw [up1_n c, up1_n c, ((tb.1 j hj).gw q (tb.2 j i hj i4 c).2.1).2]
      exact ⟨Or.inl (c3 j hj).2.1, fun l hl => Or.inl ((c3 j hj).2.2 l hl)⟩
theorem FI.cnu (f : FI S M M') (hc : Cnu Z L s v R k M) : Cnu (Zn Z M M') L s v R k M' := by
  obtain ⟨c1, c2, c3, c4, c5, c6⟩ := hc
  refine ⟨fun x a1 a2 => Or.inl (c1 x a1 a2), fun a ha => ?_, fun i hi => ?_, Or.inl c4, c5.fi f, c6.fi f⟩
  · rw [f.2.2.1]
    exact ⟨Or.inl (c2 a ha).1, Or.inl (c2 a ha).2⟩
  · rw [f.2.2.1]
    exact ⟨Or.inl (c3 i hi).1, Or.inl (c3 i hi).2.1, fun j hj => Or.inl ((c3 i hi).2.2 j hj)⟩
/-- the same cells by another name -/
theorem Cnu.cg {Z' : Nat → Prop} (hc : Cnu Z L s v R k M) (hz : ∀ x, Z x → Z' x) : Cnu Z' L s v R k M := ⟨fun x a b => hz x (hc.1 x a b), fun a ha => ⟨hz _ (hc.2.1 a ha).1, hz _ (hc.2.1 a ha).2⟩, fun i hi => ⟨hz _ (hc.2.2.1 i hi).1, hz _ (hc.2.2.1 i hi).2.1, fun j hj => hz _ ((hc.2.2.1 i hi).2.2 j hj)⟩, hz _ hc.2.2.2.1, hc.2.2.2.2⟩
end NCN
