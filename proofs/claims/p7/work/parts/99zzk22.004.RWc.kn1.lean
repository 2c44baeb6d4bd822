section
section
variable {u : Ru} {M M' : mM} {r O P s c c' L a m x : Nat} {gs t : List gqq} {od mq kn kn' : List Int} {ft ft' : Int × Int} {o d k v : Int}
theorem ops_len (gs : List gqq) : (ops gs).length = gs.length := List.length_map _
theorem Fq_none (h3 : mI M' r 3 = mI M r 3) (h4 : mI M' r 4 = mI M r 4) : Fqq M r (0, 0) M' := fun ft h => by
  have e : fst9 ft (0, 0) = ft ∨ (ft.1 = 0 ∧ fst9 ft (0, 0) = (0, 0)) := by
    unfold fst9
    by_cases z : ft.1 = 0
    · rw [if_pos z]; exact Or.inr ⟨z, rfl⟩
    · rw [if_neg z]; exact Or.inl rfl
  rcases e with e | ⟨z, e⟩
  · rw [e]; exact ⟨by rw [h3]; exact h.1, fun q => by rw [h4]; exact h.2 q⟩
  · rw [e]; exact ⟨by rw [h3, h.1]; exact z, fun q => absurd rfl q⟩
theorem Fq_note {x y : Int} (hx : x ≠ 0) (h0 : mI M r 3 = 0 → mI M' r 3 = x ∧ mI M' r 4 = y) (h1 : mI M r 3 ≠ 0 → mI M' r 3 = mI M r 3 ∧ mI M' r 4 = mI M r 4) : Fqq M r (x, y) M' := fun ft h => by
  unfold fst9
  by_cases z : ft.1 = 0
  · rw [if_pos z]
    have := h0 (by rw [h.1]; exact z)
    exact ⟨this.1, fun _ => this.2⟩
  · rw [if_neg z]
    have := h1 (by rw [h.1]; exact z)
    exact ⟨by rw [this.1]; exact h.1, fun q => by rw [this.2]; exact h.2 q⟩
/-- one more operation is open -/
theorem RWc.push (h : RWc u M r gs od mq kn ft) (h12 : mI M' r 12 = mI M r 12 + 1) (t1 : ∀ i, mI M' (r + 1) i = if i = gs.length then o else mI M (r + 1) i) (t2 : ∀ i, mI M' (r + 2) i = if i = gs.length then uP u m else mI M (r + 2) i) (t3 : ∀ i, mI M' (r + 3) i = if i = gs.length then d else mI M (r + 3) i) (t4 : ∀ i, mI M' (r + 4) i = if i = gs.length then k else mI M (r + 4) i) (t5 : Ls (mI M' (r + 5)) kn') (h14 : mI M' r 14 = kn'.length) (hf : FT M' r ft') (hd : mI M' r 5 = mI M r 5 + cdq o) (ho : opq o) (hc : cst o ≤ rsl (uQ u) (ops gs)) : RWc u M' r ((o, m, x) :: gs) (d :: od) (k :: mq) kn' ft' := by
  obtain ⟨⟨a1, a2, a3, a4, a5⟩, ⟨b1, b2⟩, ⟨c1, c2⟩, e1, ⟨q1, q2⟩, f1⟩ := h
  have l1 := ops_len gs
  refine ⟨⟨a1.put (x := o) (fun i => by rw [t1, l1]), a2.put (x := uP u m) (fun i => by rw [t2, List.length_map]), a3.put (x := d) (fun i => by rw [t3, c1]), a4.put (x := k) (fun i => by rw [t4, c2]), t5⟩, ⟨by rw [h12, b1]; rfl, h14⟩, ⟨by show od.length + 1 = gs.length + 1; omega, by show mq.length + 1 = gs.length + 1; omega⟩, hf, ⟨q1, ho, hc, q2⟩, ?_⟩
  rw [hd, f1]
  show _ = slv (uZ u) + ((cdq o + lvs (ops gs) : Nat) : Int)
  omega
/-- the latest open operation goes -/
theorem RWc.pop (h : RWc u M r ((o, m, x) :: t) (d :: od) (k :: mq) kn ft) (h12 : mI M' r 12 = mI M r 12 - 1) (hT : ∀ i, 1 ≤ i → i ≤ 4 → ∀ j, j < t.length → mI M' (r + i) j = mI M (r + i) j) (t5 : Ls (mI M' (r + 5)) kn') (h14 : mI M' r 14 = kn'.length) (hf : FT M' r ft') (hd : mI M' r 5 = mI M r 5 - cdq o) : RWc u M' r t od mq kn' ft' := by
  obtain ⟨⟨a1, a2, a3, a4, a5⟩, ⟨b1, b2⟩, ⟨c1, c2⟩, e1, ⟨q1, q2⟩, f1⟩ := h
  have l1 := ops_len t
  have c1 : od.length + 1 = t.length + 1 := c1
  have c2 : mq.length + 1 = t.length + 1 := c2
  refine ⟨⟨a1.2.cg (fun i hi => hT 1 (by omega) (by omega) i (by rw [← l1]; exact hi)), a2.2.cg (fun i hi => hT 2 (by omega) (by omega) i (by rw [List.length_map] at hi; exact hi)), a3.2.cg (fun i hi => hT 3 (by omega) (by omega) i (by omega)), a4.2.cg (fun i hi => hT 4 (by omega) (by omega) i (by omega)), t5⟩, ⟨by rw [h12, b1]; show ((t.length + 1 : Nat) : Int) - 1 = _; omega, h14⟩, ⟨by omega, by omega⟩, hf, ⟨q1, q2.2.2⟩, ?_⟩
  have f1 : mI M r 5 = slv (uZ u) + ((cdq o + lvs (ops t) : Nat) : Int) := f1
  rw [hd, f1]
  omega
/-- the latest open operation becomes another -/
theorem RWc.top {o' d' k' : Int} {x' : Nat} (h : RWc u M r ((o, m, x) :: t) (d :: od) (k :: mq) kn ft) (h12 : mI M' r 12 = mI M r 12) (t1 : ∀ i, mI M' (r + 1) i = if i = t.length then o' else mI M (r + 1) i) (t2 : ∀ i, mI M' (r + 2) i = mI M (r + 2) i) (t3 : ∀ i, mI M' (r + 3) i = if i = t.length then d' else mI M (r + 3) i) (t4 : ∀ i, mI M' (r + 4) i = if i = t.length then k' else mI M (r + 4) i) (t5 : Ls (mI M' (r + 5)) kn') (h14 : mI M' r 14 = kn'.length) (hf : FT M' r ft') (hd : mI M' r 5 = mI M r 5) (ho : opq o') (hcd : cdq o' = cdq o) (hc : cst o' = cst o) : RWc u M' r ((o', m, x') :: t) (d' :: od) (k' :: mq) kn' ft' := by
  obtain ⟨⟨a1, a2, a3, a4, a5⟩, ⟨b1, b2⟩, ⟨c1, c2⟩, e1, ⟨q1, q2⟩, f1⟩ := h
  have l1 := ops_len t
  have c1 : od.length + 1 = t.length + 1 := c1
  have c2 : mq.length + 1 = t.length + 1 := c2
  refine ⟨⟨Ls.put (f := mI M (r + 1)) a1.2 (fun i => by rw [t1]; show _ = if i = (ops t).length then _ else _; rw [l1]), ?_, Ls.put (f := mI M (r + 3)) a3.2 (fun i => by rw [t3, show t.length = od.length by first | rfl | omega]), Ls.put (f := mI M (r + 4)) a4.2 (fun i => by rw [t4, show t.length = mq.length by first | rfl | omega]), t5⟩, ⟨by rw [h12]; exact b1, h14⟩, ⟨c1, c2⟩, hf, ⟨q1, ho, by rw [hc]; exact q2.2.1, q2.2.2⟩, ?_⟩
  · exact Ls.cg (l := uP u m :: t.map (fun g => uP u g.2.1)) a2 (fun i _ => t2 i)
  · have f1 : mI M r 5 = slv (uZ u) + ((cdq o + lvs (ops t) : Nat) : Int) := f1
    rw [hd, f1]
    show _ = slv (uZ u) + ((cdq o' + lvs (ops t) : Nat) : Int)
    rw [hcd]
theorem RWc.kn1 (h : RWc u M r gs od mq (v :: kn) ft) : mI M (r + 5) kn.length = v ∧ Ls (mI M (r + 5)) kn := ⟨h.1.2.2.2.2.1, h.1.2.2.2.2.2⟩
end
end
