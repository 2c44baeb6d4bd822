/-! The class's reader of texts: where the orders of sets, chances and guards lie. -/
/-- a set is sound -/
def sOk (W pl : Nat → Int) (sm : Nat → Nat → Prop) (n V : Nat) (nms : List nm9) (q' : Nat × Nat × Nat × Nat) : Prop := Eo W 6 q'.2.1 q'.2.2.1 ∧ q'.2.2.1 ≤ n ∧ (fl W (E9 sm nms 0) pl 0 q'.2.1 q'.2.2.1).1 = 0 ∧ q'.1 < V ∧ 0 ≤ pl q'.2.2.2 ∧ pl q'.2.2.2 ≤ 16384
/-- the sets of a branch whose first word behind ':' is k0 -/
noncomputable def sll (W : Nat → Int) (sm : Nat → Nat → Prop) (Nn : Nat) (nms : List nm9) (k0 : Nat) : List (Nat × Nat × Nat × Nat) := if W k0 = 10 then [] else sel9 W sm Nn nms Nn k0
/-- i sets have been read, the next begins at the word k: their orders lie from S0 on -/
def seL (W pl nq : Nat → Int) (sm : Nat → Nat → Prop) (Nn n V : Nat) (Mc : mM) (q p O P c k0 S0 : Nat) (nms : List nm9) (i k : Nat) (M : mM) : Prop := CT Mc (q + 1) p nms → nms.length = c → mI M (q + 1) 3 = 0 → ∃ (l : List (Nat × Nat × Nat × Nat)) (s9 : Nat), mI M p 2 = ((s9 : Nat) : Int) ∧ sel9 W sm Nn nms Nn k0 = l ++ sel9 W sm Nn nms (Nn - i) k ∧ Scw (LfC W nq sm n nms) W pl (mI M O) (mI M P) l S0 s9 ∧ ∀ q', q' ∈ l → sOk W pl sm n V nms q'
/-- all sets have been read -/
def seM (W pl nq : Nat → Int) (sm : Nat → Nat → Prop) (Nn n V : Nat) (Mc : mM) (q p O P c k0 S0 : Nat) (nms : List nm9) (M : mM) : Prop := CT Mc (q + 1) p nms → nms.length = c → mI M (q + 1) 3 = 0 → ∃ s9 : Nat, mI M p 2 = ((s9 : Nat) : Int) ∧ Scw (LfC W nq sm n nms) W pl (mI M O) (mI M P) (sll W sm Nn nms k0) S0 s9 ∧ ∀ q', q' ∈ sll W sm Nn nms k0 → sOk W pl sm n V nms q'
/-- and their end is put behind them -/
def seE (W pl nq : Nat → Int) (sm : Nat → Nat → Prop) (Nn n V : Nat) (Mc : mM) (q p O P c k0 S0 : Nat) (nms : List nm9) (M : mM) : Prop := CT Mc (q + 1) p nms → nms.length = c → mI M (q + 1) 3 = 0 → ∃ s9 : Nat, mI M p 2 = ((s9 + 1 : Nat) : Int) ∧ mI M O s9 = 0 ∧ Scw (LfC W nq sm n nms) W pl (mI M O) (mI M P) (sll W sm Nn nms k0) S0 s9 ∧ ∀ q', q' ∈ sll W sm Nn nms k0 → sOk W pl sm n V nms q'
/-- a chance's orders and place are put down -/
def chD (W pl nq : Nat → Int) (sm : Nat → Nat → Prop) (Cf : Nat → Int × Int) (q p O P n c L ix a j : Nat) (nms : List nm9) (M M' : mM) : Prop := (mI M' (q + 1) 3 = 0 → (∀ i, 3 ≤ i → i ≤ 12 → mI M' (p + i) = mI M (p + i)) ∧ mI M' p 11 = mI M p 11 ∧ ∃ v e : Nat, mI M (p + 12) (ix + 1) = ((v : Nat) : Int) ∧ (∀ t, mI M' (p + 13) t = (if t = v then pl a else mI M (p + 13) t) ∧ mI M' (p + 14) t = (if t = v then ((L : Nat) : Int) else mI M (p + 14) t) ∧ mI M' (p + 15) t = (if t = v then ((e + 1 : Nat) : Int) else mI M (p + 15) t)) ∧ mI M' p 2 = ((e + 1 : Nat) : Int) ∧ mI M' O e = 0 ∧ Cd W Cf pl (mI M' O) (mI M' P) 0 0 0 a j L e ∧ cdE O P L M M') ∧ (CT M (q + 1) p nms → nms.length = c → LfC W nq sm n nms Cf)
section TXO1
variable {p n c r : Nat} {M : mM} {W nq E : Nat → Int} {Cf : Nat → Int × Int} {sm : Nat → Nat → Prop} {nms : List nm9}
/-- the orders of words, where all names may stand -/
theorem ECq.lf (ec : ECq M r p n W nq sm nms c 0 E Cf) (ct : CT M r p nms) (hl : nms.length = c) (hk : ∀ i, i < c → mI M (r + 9) i = 0 ∨ mI M (r + 9) i = 1) : LfC W nq sm n nms Cf := by
  obtain ⟨big, ec⟩ := ec
  obtain ⟨eE, ec⟩ := ec ct hl
  rw [if_pos rfl] at eE
  refine ⟨big, fun k kn => ?_⟩
  obtain ⟨c2, c12, c13, c1⟩ := ec k kn
  refine ⟨c2, c12, c13, fun h1 l1 e l2 he hs hno => ?_⟩
  have gl : nms[l1.length]? = some e := by
    rw [he, List.getElem?_append_right (Nat.le_refl _), Nat.sub_self]
    rfl
  have ne : E k ≠ -1 := by
    have fe : fnd9 sm nms k = some e := by
      unfold fnd9
      rw [List.find?_eq_some_iff_append]
      exact ⟨by simpa using hs, l1, l2, he, fun a ha => by simpa using hno a ha⟩
    rw [eE]
    unfold E9
    rw [fe]
    show (if (0 : Int) = 1 ∧ e.2.1 ≠ 1 then (-1 : Int) else e.2.2.1) ≠ -1
    rw [if_neg (fun u => absurd u.1 (by decide)), ← (ct.2 _ e gl).2.2.2.1]
    have := hk l1.length (by rw [← hl, he, List.length_append, List.length_cons]; omega)
    omega
  obtain ⟨i, e', z1, z2, -, z4, z5⟩ := c1 h1 ne
  have se' : sm e'.1 k := (fnd_sp z2).elim (fun _ ⟨_, _, q, _⟩ => q)
  have ii : i = l1.length := by
    rcases Nat.lt_trichotomy i l1.length with y | y | y
    · rw [he, List.getElem?_append_left y] at z1
      exact absurd se' (hno e' (List.mem_of_getElem? z1))
    · exact y
    · exact absurd hs (z5 _ e y gl)
  subst ii
  rw [gl] at z1
  have ee := Option.some.inj z1
  subst ee
  obtain ⟨-, t2, -, -, -, -, t7⟩ := ct.2 _ e gl
  have tk : nms.take l1.length = l1 := by rw [he, List.take_left]
  rw [z4, t2, t7, tk]
end TXO1
section TXO2
variable {W pl nq : Nat → Int} {sm : Nat → Nat → Prop} {Nn n V q p O P c k0 S0 i k j : Nat} {Mc M M' : mM} {nms : List nm9} {e : nm9}
theorem twt9 {P9 : nm9 → Bool} : ∀ (l : List nm9) (j : Nat) (e : nm9), l[j]? = some e → P9 e = false → (∀ (j' : Nat) (e' : nm9), j' < j → l[j']? = some e' → P9 e' = true) → l.takeWhile P9 = l.take j
  | [], j, e, h, _, _ => absurd h (by simp)
  | a :: l, 0, e, h, h1, _ => by
    have : a = e := Option.some.inj h
    subst this
    rw [List.takeWhile_cons, h1]
    rfl
  | a :: l, j + 1, e, h, h1, h2 => by
    have ha := h2 0 a (by omega) rfl
    rw [List.takeWhile_cons, ha, List.take_succ_cons]
    show a :: l.takeWhile P9 = _
    rw [twt9 l j e h h1 (fun j' e' hj z => h2 (j' + 1) e' (by omega) z)]
theorem vix_at (h : nms[j]? = some e) (h1 : sm e.1 k) (h2 : ∀ (j' : Nat) (e' : nm9), j' < j → nms[j']? = some e' → ¬ sm e'.1 k) : vix9 sm nms k = vcn (nms.take j) := by
  unfold vix9
  rw [twt9 nms j e h (by simpa using h1) (fun j' e' hj z => by simpa using h2 j' e' hj z)]
theorem seL.cg (h : seL W pl nq sm Nn n V Mc q p O P c k0 S0 nms i k M) (h3 : mI M' (q + 1) 3 = 0 → mI M (q + 1) 3 = 0) (hp : mI M' p 2 = mI M p 2) (hO : mI M' O = mI M O) (hP : mI M' P = mI M P) : seL W pl nq sm Nn n V Mc q p O P c k0 S0 nms i k M' := fun ct hl y => by
  obtain ⟨l, s9, a1, a2, a3, a4⟩ := h ct hl (h3 y)
  exact ⟨l, s9, by rw [hp]; exact a1, a2, by rw [hO, hP]; exact a3, a4⟩
/-- one set more -/
theorem seL.next {Cf : Nat → Int × Int} {s9 e9 a' : Nat} (h : seL W pl nq sm Nn n V Mc q p O P c k0 S0 nms i k M) (h3 : mI M' (q + 1) 3 = 0 → mI M (q + 1) 3 = 0) (hp : mI M p 2 = ((s9 : Nat) : Int)) (hp' : mI M' p 2 = ((e9 + 1 : Nat) : Int)) (hc : ∀ t, t < s9 → mI M' O t = mI M O t ∧ mI M' P t = mI M P t) (hi : i < Nn) (hk : W k0 ≠ 10) (cp : cpq W (k + 4) Nn = a') (hx : CT Mc (q + 1) p nms → nms.length = c → mI M' (q + 1) 3 = 0 → LfC W nq sm n nms Cf ∧ Cd W Cf pl (mI M' O) (mI M' P) 0 0 0 (k + 4) a' s9 e9 ∧ mI M' O e9 = 43 ∧ mI M' P e9 = pl k * 16 + ((vix9 sm nms (k + 1) : Nat) : Int) ∧ sOk W pl sm n V nms (vix9 sm nms (k + 1), k + 4, a', k)) : (W (a' + 1) = 29 → seL W pl nq sm Nn n V Mc q p O P c k0 S0 nms (i + 1) (a' + 2) M') ∧ (W (a' + 1) ≠ 29 → seM W pl nq sm Nn n V Mc q p O P c k0 S0 nms M') := by
  have key : CT Mc (q + 1) p nms → nms.length = c → mI M' (q + 1) 3 = 0 → ∃ l, sel9 W sm Nn nms Nn k0 = (l ++ [(vix9 sm nms (k + 1), k + 4, a', k)]) ++ (if W (a' + 1) = 29 then sel9 W sm Nn nms (Nn - (i + 1)) (a' + 2) else []) ∧ Scw (LfC W nq sm n nms) W pl (mI M' O) (mI M' P) (l ++ [(vix9 sm nms (k + 1), k + 4, a', k)]) S0 (e9 + 1) ∧ ∀ q', q' ∈ l ++ [(vix9 sm nms (k + 1), k + 4, a', k)] → sOk W pl sm n V nms q' := fun ct hl y => by
    obtain ⟨l, s9', a1, a2, a3, a4⟩ := h ct hl (h3 y)
    have es : s9' = s9 := by rw [hp] at a1; omega
    subst es
    obtain ⟨x1, x2, x3, x4, x5⟩ := hx ct hl y
    refine ⟨l, ?_, Scw.add (q := (vix9 sm nms (k + 1), k + 4, a', k)) x1 l (Scw.cg l a3 (fun t _ t2 => hc t t2)) x2 x3 x4, fun q' hq => ?_⟩
    · obtain ⟨f, hf⟩ : ∃ f, Nn - i = f + 1 := ⟨Nn - i - 1, by omega⟩
      rw [a2, hf, sel9, cp, show Nn - (i + 1) = f by omega, List.append_assoc]
      rfl
    · rcases List.mem_append.mp hq with u | u
      · exact a4 q' u
      · rw [List.mem_singleton.mp u]
        exact x5
  refine ⟨fun w29 ct hl y => ?_, fun w29 ct hl y => ?_⟩
  · obtain ⟨l, b1, b2, b3⟩ := key ct hl y
    rw [if_pos w29] at b1
    exact ⟨_, e9 + 1, hp', b1, b2, b3⟩
  · obtain ⟨l, b1, b2, b3⟩ := key ct hl y
    rw [if_neg w29, List.append_nil] at b1
    have e1 : sll W sm Nn nms k0 = l ++ [(vix9 sm nms (k + 1), k + 4, a', k)] := by
      unfold sll
      rw [if_neg hk, b1]
    refine ⟨e9 + 1, hp', ?_, ?_⟩
    · rw [e1]; exact b2
    · rw [e1]; exact b3
theorem seM.fin {s9 : Nat} (h : seM W pl nq sm Nn n V Mc q p O P c k0 S0 nms M) (h3 : mI M' (q + 1) 3 = 0 → mI M (q + 1) 3 = 0) (hp : mI M p 2 = ((s9 : Nat) : Int)) (hp' : mI M' p 2 = ((s9 + 1 : Nat) : Int)) (hc : ∀ t, t < s9 → mI M' O t = mI M O t ∧ mI M' P t = mI M P t) (h0 : mI M' O s9 = 0) : seE W pl nq sm Nn n V Mc q p O P c k0 S0 nms M' := fun ct hl y => by
  obtain ⟨s9', a1, a2, a3⟩ := h ct hl (h3 y)
  have es : s9' = s9 := by rw [hp] at a1; omega
  subst es
  exact ⟨s9', hp', h0, Scw.cg _ a2 (fun t _ t2 => hc t t2), a3⟩
end TXO2
