/-! The class's reader: its piles in memory. -/
/-- the first entries of an array, the last of them first -/
def Ls (f : Nat → Int) : List Int → Prop
  | [] => True
  | x :: t => f t.length = x ∧ Ls f t
section LS
variable {f f' : Nat → Int} {x : Int}
theorem Ls.cg : ∀ {l : List Int}, Ls f l → (∀ i, i < l.length → f' i = f i) → Ls f' l
  | [], _, _ => trivial
  | y :: t, h, e => ⟨by rw [e t.length (by show t.length < t.length + 1; omega)]; exact h.1, h.2.cg (fun i hi => e i (by show i < t.length + 1; omega))⟩
theorem Ls.put {l : List Int} (h : Ls f l) (e : ∀ i, f' i = if i = l.length then x else f i) : Ls f' (x :: l) :=
  ⟨by rw [e, if_pos rfl], h.cg (fun i hi => by rw [e, if_neg (by omega)])⟩
end LS
/-- what reading a rule hangs on: words, kinds of names, places, orders of words; the rule's first word and the fault before it; the pile below, the rule's strength; where the machine began -/
abbrev Ru : Type := (Nat → Int) × (Nat → Int) × (Nat → Int) × (Nat → Int × Int) × (Nat × (Int × Int)) × (List Int × Nat) × (List Int × Nat)
def ruW (u : Ru) : Nat → Int := u.1
def uE (u : Ru) : Nat → Int := u.2.1
def uP (u : Ru) : Nat → Int := u.2.2.1
def uC (u : Ru) : Nat → Int × Int := u.2.2.2.1
def ruI (u : Ru) : Nat := u.2.2.2.2.1.1
def uF (u : Ru) : Int × Int := u.2.2.2.2.1.2
def uZ (u : Ru) : List Int := u.2.2.2.2.2.1.1
def uQ (u : Ru) : Nat := u.2.2.2.2.2.1.2
def uS (u : Ru) : List Int := u.2.2.2.2.2.2.1
def uK (u : Ru) : Nat := u.2.2.2.2.2.2.2
/-- the operations' numbers -/
def ops (gs : List gqq) : List Int := gs.map (fun g => g.1)
/-- the fault that is noted -/
def FT (M : mM) (r : Nat) (ft : Int × Int) : Prop := mI M r 3 = ft.1 ∧ (ft.1 ≠ 0 → mI M r 4 = ft.2)
/-- a fault is noted, if there was none -/
def Fqq (M : mM) (r : Nat) (v : Int × Int) (M' : mM) : Prop := ∀ ft, FT M r ft → FT M' r (fst9 ft v)
/-- the piles -/
def RWc (u : Ru) (M : mM) (r : Nat) (gs : List gqq) (od mq kn : List Int) (ft : Int × Int) : Prop :=
  (Ls (mI M (r + 1)) (ops gs) ∧ Ls (mI M (r + 2)) (gs.map (fun g => uP u g.2.1)) ∧ Ls (mI M (r + 3)) od ∧ Ls (mI M (r + 4)) mq ∧ Ls (mI M (r + 5)) kn) ∧ (mI M r 12 = gs.length ∧ mI M r 14 = kn.length) ∧ (od.length = gs.length ∧ mq.length = gs.length) ∧ FT M r ft ∧ ((5 ≤ uQ u ∧ uQ u ≤ 6) ∧ woq (uQ u) (ops gs)) ∧ mI M r 5 = slv (uZ u) + lvs (ops gs)
/-- an operand is wanted at word a -/
def RW1 (u : Ru) (M : mM) (r O P s L a : Nat) : Prop := ∃ gs od mq kn ft, RWc u M r gs od mq kn ft ∧ GSq (ruW u) (uE u) (uP u) (mI M O) (mI M P) (uC u) (ruI u) s (uF u) gs od mq kn ft L ∧ xs9 (ruI u) gs = a ∧ Rc (ruW u) (uS u) (uK u) (gyW (uZ u) (uQ u) (ops gs)) a
/-- an operand has been read up to word a -/
def RW0 (u : Ru) (M : mM) (r O P s c c' L a : Nat) : Prop := ∃ gs od mq kn ft, RWc u M r gs od mq kn ft ∧ OPq (ruW u) (uE u) (uP u) (mI M O) (mI M P) (uC u) (ruI u) s (uF u) c gs od mq kn ft L a ∧ Rc (ruW u) (uS u) (uK u) (gyR (uZ u) (uQ u) c' (ops gs)) a
section RX
variable {u : Ru} {M M' : mM} {r O P s c c' L a m x : Nat} {gs t : List gqq} {od mq kn kn' : List Int} {ft ft' : Int × Int} {o d k v : Int}
theorem ops_len (gs : List gqq) : (ops gs).length = gs.length := List.length_map _
theorem Fq_none (h3 : mI M' r 3 = mI M r 3) (h4 : mI M' r 4 = mI M r 4) : Fqq M r (0, 0) M' := fun ft h => by
  have e : fst9 ft (0, 0) = ft ∨ (ft.1 = 0 ∧ fst9 ft (0, 0) = (0, 0)) := by
    unfold fst9
    by_cases z : ft.1 = 0
    · rw [if_pos z]; exact Or.inr ⟨z, rfl⟩
    · rw [if_neg z]; exact Or.inl rfl
  rcases e with e | ⟨z, e⟩
  · rw [e]; exact ⟨by rw [h3]; exact h.1, fun q => by rw [h4]; exact h.2 q⟩
  · rw [e]; exact ⟨by rw [h3, h.1]; exact z, fun q => absurd rfl q⟩
theorem Fq_note {x y : Int} (hx : x ≠ 0) (h0 : mI M r 3 = 0 → mI M' r 3 = x ∧ mI M' r 4 = y) (h1 : mI M r 3 ≠ 0 → mI M' r 3 = mI M r 3 ∧ mI M' r 4 = mI M r 4) : Fqq M r (x, y) M' := fun ft h => by
  unfold fst9
  by_cases z : ft.1 = 0
  · rw [if_pos z]
    have := h0 (by rw [h.1]; exact z)
    exact ⟨this.1, fun _ => this.2⟩
  · rw [if_neg z]
    have := h1 (by rw [h.1]; exact z)
    exact ⟨by rw [this.1]; exact h.1, fun q => by rw [this.2]; exact h.2 q⟩
theorem Fq_kft {p : Prop} {y : Int} (h0 : p → mI M' r 3 = mI M r 3 ∧ mI M' r 4 = mI M r 4) (h1 : ¬ p → Fqq M r (3, y) M') : Fqq M r (kft p y) M' := by
  unfold kft
  by_cases z : p
  · rw [if_pos z]; exact Fq_none (h0 z).1 (h0 z).2
  · rw [if_neg z]; exact h1 z
/-- one more operation is open -/
theorem RWc.push (h : RWc u M r gs od mq kn ft) (h12 : mI M' r 12 = mI M r 12 + 1) (t1 : ∀ i, mI M' (r + 1) i = if i = gs.length then o else mI M (r + 1) i) (t2 : ∀ i, mI M' (r + 2) i = if i = gs.length then uP u m else mI M (r + 2) i) (t3 : ∀ i, mI M' (r + 3) i = if i = gs.length then d else mI M (r + 3) i) (t4 : ∀ i, mI M' (r + 4) i = if i = gs.length then k else mI M (r + 4) i) (t5 : Ls (mI M' (r + 5)) kn') (h14 : mI M' r 14 = kn'.length) (hf : FT M' r ft') (hd : mI M' r 5 = mI M r 5 + cdq o) (ho : opq o) (hc : cst o ≤ rsl (uQ u) (ops gs)) : RWc u M' r ((o, m, x) :: gs) (d :: od) (k :: mq) kn' ft' := by
  obtain ⟨⟨a1, a2, a3, a4, a5⟩, ⟨b1, b2⟩, ⟨c1, c2⟩, e1, ⟨q1, q2⟩, f1⟩ := h
  have l1 := ops_len gs
  refine ⟨⟨a1.put (x := o) (fun i => by rw [t1, l1]), a2.put (x := uP u m) (fun i => by rw [t2, List.length_map]), a3.put (x := d) (fun i => by rw [t3, c1]), a4.put (x := k) (fun i => by rw [t4, c2]), t5⟩, ⟨by rw [h12, b1]; rfl, h14⟩, ⟨by show od.length + 1 = gs.length + 1; omega, by show mq.length + 1 = gs.length + 1; omega⟩, hf, ⟨q1, ho, hc, q2⟩, ?_⟩
  rw [hd, f1]
  show _ = slv (uZ u) + ((cdq o + lvs (ops gs) : Nat) : Int)
  omega
/-- the latest open operation goes -/
theorem RWc.pop (h : RWc u M r ((o, m, x) :: t) (d :: od) (k :: mq) kn ft) (h12 : mI M' r 12 = mI M r 12 - 1) (hT : ∀ i, 1 ≤ i → i ≤ 4 → ∀ j, j < t.length → mI M' (r + i) j = mI M (r + i) j) (t5 : Ls (mI M' (r + 5)) kn') (h14 : mI M' r 14 = kn'.length) (hf : FT M' r ft') (hd : mI M' r 5 = mI M r 5 - cdq o) : RWc u M' r t od mq kn' ft' := by
  obtain ⟨⟨a1, a2, a3, a4, a5⟩, ⟨b1, b2⟩, ⟨c1, c2⟩, e1, ⟨q1, q2⟩, f1⟩ := h
  have l1 := ops_len t
  have c1 : od.length + 1 = t.length + 1 := c1
  have c2 : mq.length + 1 = t.length + 1 := c2
  refine ⟨⟨a1.2.cg (fun i hi => hT 1 (by omega) (by omega) i (by rw [← l1]; exact hi)), a2.2.cg (fun i hi => hT 2 (by omega) (by omega) i (by rw [List.length_map] at hi; exact hi)), a3.2.cg (fun i hi => hT 3 (by omega) (by omega) i (by omega)), a4.2.cg (fun i hi => hT 4 (by omega) (by omega) i (by omega)), t5⟩, ⟨by rw [h12, b1]; show ((t.length + 1 : Nat) : Int) - 1 = _; omega, h14⟩, ⟨by omega, by omega⟩, hf, ⟨q1, q2.2.2⟩, ?_⟩
  have f1 : mI M r 5 = slv (uZ u) + ((cdq o + lvs (ops t) : Nat) : Int) := f1
  rw [hd, f1]
  omega
/-- the latest open operation becomes another -/
theorem RWc.top {o' d' k' : Int} {x' : Nat} (h : RWc u M r ((o, m, x) :: t) (d :: od) (k :: mq) kn ft) (h12 : mI M' r 12 = mI M r 12) (t1 : ∀ i, mI M' (r + 1) i = if i = t.length then o' else mI M (r + 1) i) (t2 : ∀ i, mI M' (r + 2) i = mI M (r + 2) i) (t3 : ∀ i, mI M' (r + 3) i = if i = t.length then d' else mI M (r + 3) i) (t4 : ∀ i, mI M' (r + 4) i = if i = t.length then k' else mI M (r + 4) i) (t5 : Ls (mI M' (r + 5)) kn') (h14 : mI M' r 14 = kn'.length) (hf : FT M' r ft') (hd : mI M' r 5 = mI M r 5) (ho : opq o') (hcd : cdq o' = cdq o) (hc : cst o' = cst o) : RWc u M' r ((o', m, x') :: t) (d' :: od) (k' :: mq) kn' ft' := by
  obtain ⟨⟨a1, a2, a3, a4, a5⟩, ⟨b1, b2⟩, ⟨c1, c2⟩, e1, ⟨q1, q2⟩, f1⟩ := h
  have l1 := ops_len t
  have c1 : od.length + 1 = t.length + 1 := c1
  have c2 : mq.length + 1 = t.length + 1 := c2
  refine ⟨⟨Ls.put (f := mI M (r + 1)) a1.2 (fun i => by rw [t1]; show _ = if i = (ops t).length then _ else _; rw [l1]), ?_, Ls.put (f := mI M (r + 3)) a3.2 (fun i => by rw [t3, show t.length = od.length by omega]), Ls.put (f := mI M (r + 4)) a4.2 (fun i => by rw [t4, show t.length = mq.length by omega]), t5⟩, ⟨by rw [h12]; exact b1, h14⟩, ⟨c1, c2⟩, hf, ⟨q1, ho, by rw [hc]; exact q2.2.1, q2.2.2⟩, ?_⟩
  · exact Ls.cg (l := uP u m :: t.map (fun g => uP u g.2.1)) a2 (fun i _ => t2 i)
  · have f1 : mI M r 5 = slv (uZ u) + ((cdq o + lvs (ops t) : Nat) : Int) := f1
    rw [hd, f1]
    show _ = slv (uZ u) + ((cdq o' + lvs (ops t) : Nat) : Int)
    rw [hcd]
theorem RWc.kn1 (h : RWc u M r gs od mq (v :: kn) ft) : mI M (r + 5) kn.length = v ∧ Ls (mI M (r + 5)) kn := ⟨h.1.2.2.2.2.1, h.1.2.2.2.2.2⟩
theorem RWc.hd (h : RWc u M r ((o, m, x) :: t) (d :: od) (k :: mq) kn ft) : mI M (r + 1) t.length = o ∧ mI M (r + 2) t.length = uP u m ∧ mI M (r + 3) t.length = d ∧ mI M (r + 4) t.length = k ∧ mI M r 12 = ((t.length + 1 : Nat) : Int) := by
  obtain ⟨⟨a1, a2, a3, a4, a5⟩, ⟨b1, b2⟩, ⟨c1, c2⟩, -⟩ := h
  have l1 := ops_len t
  have c1 : od.length + 1 = t.length + 1 := c1
  have c2 : mq.length + 1 = t.length + 1 := c2
  have q1 : mI M (r + 1) (ops t).length = o := a1.1
  have q2 : mI M (r + 2) (t.map (fun g => uP u g.2.1)).length = uP u m := a2.1
  have q3 : mI M (r + 3) od.length = d := a3.1
  have q4 : mI M (r + 4) mq.length = k := a4.1
  rw [l1] at q1
  rw [List.length_map] at q2
  rw [show od.length = t.length by omega] at q3
  rw [show mq.length = t.length by omega] at q4
  exact ⟨q1, q2, q3, q4, b1⟩
end RX
