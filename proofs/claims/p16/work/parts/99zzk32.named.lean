section
/-! The class's reader of texts: names, and the rules of items. -/
section TRC
variable {G : mG} {d z q w T A B D N C n p O P K Ab Be Cm V F c s L L' cnt Bn a d0 V1 F1 : Nat} {M0 M M' M1 M2 : mM} {ns ns' ns1 : Nat → Int} {sf ef sf' ef' : Nat → Nat} {H : Nat → Nat} {S R : Nat → Prop}
def nmF (M0 : mM) (q : Nat) (M : mM) : Prop := (∀ i, i ≠ 2 → i ≠ 3 → i ≠ 4 → mI M (q + 1) i = mI M0 (q + 1) i) ∧ (∀ i, i ≠ 3 → mI M q i = mI M0 q i) ∧ (∀ b, b ≠ q → b ≠ q + 1 → mI M b = mI M0 b)
theorem nmF.refl : nmF M q M := ⟨fun _ _ _ _ => rfl, fun _ _ => rfl, fun _ _ _ => rfl⟩
theorem nmF.trans (f : nmF M0 q M1) (g : nmF M1 q M2) : nmF M0 q M2 := ⟨fun i i2 i3 i4 => by rw [g.1 i i2 i3 i4, f.1 i i2 i3 i4], fun i i3 => by rw [g.2.1 i i3, f.2.1 i i3], fun b b1 b2 => by rw [g.2.2 b b1 b2, f.2.2 b b1 b2]⟩
/-- what readName comes to -/
def rnmQ (M0 : mM) (z q w T A B D N C n p O P K Ab Be Cm V F : Nat) (ns : Nat → Int) (sf ef : Nat → Nat) (c cnt L a : Nat) (l1 : Int) (x : Int) (M' : mM) : Prop := TX M' z q w T A B D N C n p O P K Ab Be Cm V F ns sf ef c cnt L ∧ txF M0 q p O P L M' ∧ nmF M0 q M' ∧ (l1 ≠ 0 → mI M' (q + 1) 3 ≠ 0) ∧ ((x = 0 ∧ ∃ a' : Nat, mI M' (q + 1) 2 = a' ∧ a' ≤ n) ∨ (x = 1 ∧ mI M' (q + 1) 2 = ((a + 2 : Nat) : Int) ∧ a + 2 ≤ n ∧ mI M' q 3 = ((a + 1 : Nat) : Int) ∧ mI M' A (a + 1) = 2))
/-- a rule of an item -/
def irQ (M : mM) (z q w T A B D N C n p O P K Ab Be Cm V F : Nat) (ns : Nat → Int) (sf ef : Nat → Nat) (c cnt L s V1 F1 : Nat) (ns1 : Nat → Int) (a k : Nat) (x : Int) (M' : mM) : Prop := TX M' z q w T A B D N C n p O P K Ab Be Cm V F ns sf ef c cnt L ∧ txF M q p O P s M' ∧ (mI M' (q + 1) 6 = mI M (q + 1) 6 ∧ mI M' q = mI M q ∧ (∀ i, mI M' (q + 21) i = if i = k then (s : Int) else mI M (q + 21) i)) ∧ ((x = 0 ∧ ∃ a' : Nat, mI M' (q + 1) 2 = a' ∧ a' ≤ n) ∨ (x = 1 ∧ ∃ e H a', Cod M' O P V1 F1 ns1 s e H 1 ∧ mI M' p 2 = ((e + 1 : Nat) : Int) ∧ mI M' (q + 1) 2 = ((a' : Nat) : Int) ∧ a ≤ a' ∧ a' ≤ n ∧ e ≤ a' ∧ mI M' (q + 1) 5 = mI M (q + 1) 5))
end TRC
end
section
/-! The class's reader of texts: const, formula, target. -/
section TRD
variable {G : mG} {d z q w T A B D N C n p O P K Ab Be Cm V F c s L L' cnt Bn a d0 V1 F1 nw : Nat} {M0 M M' M1 M2 : mM} {ns ns' ns1 : Nat → Int} {sf ef sf' ef' : Nat → Nat} {H : Nat → Nat} {S R : Nat → Prop}
/-- it does not stand: the reader stays sound -/
def nstQ (z q w T A B D N C n p O P K Ab Be Cm V F : Nat) (ns : Nat → Int) (sf ef : Nat → Nat) (c cnt L : Nat) (M' : mM) : Prop := TX M' z q w T A B D N C n p O P K Ab Be Cm V F ns sf ef c cnt L ∧ ∃ a' : Nat, mI M' (q + 1) 2 = a' ∧ a' ≤ n
def vco (l1 : Int) (V : Nat) : Nat := if l1 = 4 then 0 else V
def nco (l1 : Int) (ns : Nat → Int) : Nat → Int := if l1 = 4 then nsc ns else ns
/-- a const or formula stands: its code from L to e -/
def ndQ (M0 : mM) (z q w T A B D N C n p O P K Ab Be Cm V F : Nat) (ns : Nat → Int) (sf ef : Nat → Nat) (c cnt L : Nat) (l1 : Int) (x : Int) (M' : mM) : Prop := FI (txS q p O P) M0 M' ∧ ((x = 0 ∧ nstQ z q w T A B D N C n p O P K Ab Be Cm V F ns sf ef c cnt L M') ∨ (x = 1 ∧ TX M' z q w T A B D N C n p O P K Ab Be Cm V F ns sf ef c cnt L ∧ (60 ≤ F → mI M' (q + 1) 3 ≠ 0) ∧ ∃ e a' nw : Nat, ∃ H : Nat → Nat, Cod M' O P (vco l1 V) F (nco l1 ns) L e H 1 ∧ mI M' p 2 = ((e + 1 : Nat) : Int) ∧ mI M' (q + 1) 2 = (a' : Int) ∧ a' ≤ n ∧ e + 1 ≤ a' ∧ mI M' (q + 1) 5 = 0 ∧ mI M' q 3 = (nw : Int) ∧ nw < n ∧ mI M' A nw = 2 ∧ (mI M' q 8 = 0 ∨ mI M' q 8 = 1) ∧ mI M' (q + 21) 0 = (L : Int)))
/-- what lies apart -/
theorem TP.ne (h : TP M z q w T A B D N C n p O P K Ab Be Cm) : (p ≠ q ∧ p ≠ q + 1 ∧ p ≠ q + 21 ∧ p ≠ q + 22) ∧ (O ≠ q ∧ O ≠ q + 1 ∧ O ≠ q + 21 ∧ O ≠ q + 22 ∧ O ≠ p) ∧ (P ≠ q ∧ P ≠ q + 1 ∧ P ≠ q + 21 ∧ P ≠ q + 22 ∧ P ≠ p) := by
  have ap := h.apart
  have qp := h.2.2.2.2.2.1.2.1
  clear h
  omega
theorem q_ne (q : Nat) : q ≠ q + 1 ∧ q + 1 ≠ q ∧ q + 21 ≠ q ∧ q + 21 ≠ q + 1 ∧ q ≠ q + 21 ∧ q + 1 ≠ q + 21 ∧ q + 22 ≠ q ∧ q + 22 ≠ q + 1 ∧ q + 6 ≠ q + 1 ∧ q + 6 ≠ q := by omega
theorem PG.longer (h : PG M p O P V F ns sf ef L cnt Bn) (hL : L ≤ L') : PG M p O P V F ns sf ef L' cnt Bn := by
  obtain ⟨g1, g2, g3, g4, g5, g6, g7⟩ := h
  have up : ∀ {s h : Nat}, PC M O P V F ns ef L s h → PC M O P V F ns ef L' s h := fun hc => hc.wide (Nat.le_refl _) (Nat.le_refl _) hL (fun _ _ => ⟨rfl, rfl⟩)
  refine ⟨g1.wide (Nat.le_refl _) hL, g2.imp (fun y => y) (fun ⟨s, y1, y2⟩ => ⟨s, y1, up y2⟩), fun j hj => ?_, g4, g5, g6, fun b hb => ?_⟩
  · obtain ⟨s, y1, y2⟩ := g3 j hj
    exact ⟨s, y1, up y2⟩
  · obtain ⟨s1, s2, y1, y2, y3, y4⟩ := g7 b hb
    exact ⟨s1, s2, y1, up y2, y3, up y4⟩
/-- a target stands -/
def tgQ (M0 : mM) (z q w T A B D N C n p O P K Ab Be Cm V F : Nat) (ns : Nat → Int) (sf ef : Nat → Nat) (c cnt L : Nat) (x : Int) (M' : mM) : Prop := FI (txS q p O P) M0 M' ∧ ((x = 0 ∧ ∃ L', nstQ z q w T A B D N C n p O P K Ab Be Cm V F ns sf ef c cnt L' M') ∨ (x = 1 ∧ ∃ L' a' : Nat, TX M' z q w T A B D N C n p O P K Ab Be Cm V F ns sf ef c cnt L' ∧ mI M' p 2 = (L' : Int) ∧ mI M' (q + 1) 2 = (a' : Int) ∧ a' ≤ n ∧ L' ≤ a' ∧ mI M' (q + 1) 5 = 0))
theorem s_rt8 (h : TX M z q w T A B D N C n p O P K Ab Be Cm V F ns sf ef c cnt L) (han : a < n) (e8 : M1 = mUI M (q + 1) 2 ((a : Int) + 1)) : mK M1 (mR M1 q 0) = 4 ∧ mR M1 q 0 = q + 1 := by
  have hN : n ≤ 16384 := by have := h.1.1.2.2.2.1.2.2.1; have := h.1.1.2.2.2.1.1.2.2.2.2.2.2.1; omega
  obtain ⟨h1, x1, g1⟩ := tx_ui h ⟨by omega, by omega⟩ e8 (Or.inr (Or.inr (Or.inr (Or.inl ⟨rfl, Or.inl rfl⟩))))
  exact ⟨by rw [h1.1.2.1.2.1]; exact h1.1.1.2.1.1, h1.1.2.1.2.1⟩
end TRD
end
section
/-! The class's reader of texts: var. -/
section TRE
variable {G : mG} {d z q w T A B D N C n p O P K Ab Be Cm V F c s s' L L' cnt Bn a d0 V1 F1 nw k : Nat} {M0 M M' M1 M2 : mM} {ns ns' ns1 : Nat → Int} {sf ef sf' ef' : Nat → Nat} {H : Nat → Nat} {S R : Nat → Prop}
/-- the item's rule k, below s' -/
def rvR (M : mM) (q O P F : Nat) (ns : Nat → Int) (L s' k : Nat) : Prop := ∃ s e H, mI M (q + 21) k = ((s : Nat) : Int) ∧ Cod M O P 0 F (nsc ns) s e H 1 ∧ L ≤ s ∧ e < s'
theorem rvR.cg {s1 s2 : Nat} (h : rvR M q O P F ns L s1 k) (h1 : mI M' (q + 21) k = mI M (q + 21) k) (hO : ∀ i, i < s1 → mI M' O i = mI M O i ∧ mI M' P i = mI M P i) (hs : s1 ≤ s2) : rvR M' q O P F ns L s2 k := by
  obtain ⟨s, e, H, a1, a2, a3, a4⟩ := h
  exact ⟨s, e, H, by rw [h1]; exact a1, a2.cg (fun i hi => (hO i (by omega)).1) (fun i hi => (hO i (by omega)).2), a3, by omega⟩
/-- what the item has so far -/
def vrS (M : mM) (q A n p L s a nw V : Nat) : Prop := mI M p 2 = ((s : Nat) : Int) ∧ L ≤ s ∧ s ≤ a ∧ mI M (q + 1) 2 = ((a : Nat) : Int) ∧ a ≤ n ∧ mI M (q + 1) 5 = 0 ∧ mI M q 3 = ((nw : Nat) : Int) ∧ nw < n ∧ mI M A nw = 2 ∧ mI M q 4 = ((L : Nat) : Int) ∧ (mI M q 8 = 0 ∨ mI M q 8 = 1) ∧ (12 ≤ V → mI M (q + 1) 3 ≠ 0)
def vaQ (M0 : mM) (z q w T A B D N C n p O P K Ab Be Cm V F : Nat) (ns : Nat → Int) (sf ef : Nat → Nat) (c cnt L : Nat) (x : Int) (M' : mM) : Prop := FI (txS q p O P) M0 M' ∧ ((x = 0 ∧ nstQ z q w T A B D N C n p O P K Ab Be Cm V F ns sf ef c cnt L M') ∨ (x = 1 ∧ TX M' z q w T A B D N C n p O P K Ab Be Cm V F ns sf ef c cnt L ∧ ∃ s a nw : Nat, vrS M' q A n p L s a nw V ∧ (mI M' q 8 = 0 → rvR M' q O P F ns L s 0 ∧ rvR M' q O P F ns L s 1) ∧ (mI M' q 7 ≠ 0 → rvR M' q O P F ns L s 2)))
end TRE
end
