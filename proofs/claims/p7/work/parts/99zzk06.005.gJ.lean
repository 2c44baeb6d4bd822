section
section
variable {G : mG} {d z r w T A B D N C n p O P K k a s L V F d0 c : Nat} {M0 M M' M1 M2 M110 M126 M133 : mM} {H H' : Nat → Nat} {ns : Nat → Int} {wt : Int}
/-- kinds are taken and put, a fault may be noted -/
def gI (M0 : mM) (z r w T A B D N C n p O P K k c : Nat) (M : mM) : Prop := RB M z r w T A B D N C n p O P K ∧ FI (rdS r p O P) M0 M ∧ (∀ i, i ≠ 3 → i ≠ 4 → i ≠ 12 → i ≠ 14 → mI M r i = mI M0 r i) ∧ (mI M r 12 = k ∧ mI M r 14 = c) ∧ (mI M0 r 3 ≠ 0 → mI M r 3 = mI M0 r 3) ∧ (∀ b, b ≠ r → b ≠ r + 5 → mI M b = mI M0 b) ∧ (∀ j, mI M (r + 5) j = 0 ∨ mI M (r + 5) j = 1)
theorem gI.pop (h : gI M0 z r w T A B D N C n p O P K k (c + 1) M) (hc : c < 336) : Ci G y_RR_popKind d [vr r] M (fun v M' => (v = 0 ∨ v = 1) ∧ gI M0 z r w T A B D N C n p O P K k c M') := by
  obtain ⟨h1, h2, h3, ⟨h4, h5⟩, h6, h7, h8⟩ := h
  refine (s_RR_popKind h1 h5 hc).mono (fun v M1 q => ?_)
  obtain ⟨hv, b1, f1, g1⟩ := q
  have o1 : ∀ b, b ≠ r → mI M1 b = mI M b := fun b hb => f1.2.2.2.2.2.2 b hb
  refine ⟨hv, b1, h2.trans (f1.mono (fun b q => Or.inl ⟨by omega, by omega⟩)), fun i i3 i4 i12 i14 => by rw [g1, if_neg i14]; exact h3 i i3 i4 i12 i14, ⟨by rw [g1, if_neg (by decide)]; exact h4, by rw [g1, if_pos rfl]⟩, fun q => by rw [g1, if_neg (by decide)]; exact h6 q, fun b b1 b2 => by rw [o1 b b1]; exact h7 b b1 b2, fun j => by rw [o1 (r + 5) (by omega)]; exact h8 j⟩
theorem gI.note {x y : Int} (hx : i32 x) (hy : i32 y) (h : gI M0 z r w T A B D N C n p O P K k c M) : Cv G y_RR_note d [vr r, vi x, vi y] M (fun M' => gI M0 z r w T A B D N C n p O P K k c M') := by
  obtain ⟨h1, h2, h3, ⟨h4, h5⟩, h6, h7, h8⟩ := h
  refine (s_RR_note hx hy h1).mono (fun M1 q => ?_)
  obtain ⟨b1, f1, g1, -, g3⟩ := q
  have o1 : ∀ b, b ≠ r → mI M1 b = mI M b := fun b hb => f1.2.2.2.2.2.2 b hb
  refine ⟨b1, h2.trans (f1.mono (fun b q => Or.inl ⟨by omega, by omega⟩)), fun i i3 i4 i12 i14 => by rw [g1 i i3 i4]; exact h3 i i3 i4 i12 i14, ⟨by rw [g1 12 (by decide) (by decide)]; exact h4, by rw [g1 14 (by decide) (by decide)]; exact h5⟩, fun q => by rw [g3 (by rw [h6 q]; exact q)]; exact h6 q, fun b b1 b2 => by rw [o1 b b1]; exact h7 b b1 b2, fun j => by rw [o1 (r + 5) (by omega)]; exact h8 j⟩
/-- what is left when an operation has been grouped -/
def gQ (M0 : mM) (z r w T A B D N C n p O P K s V F : Nat) (ns : Nat → Int) (d0 : Nat) (H : Nat → Nat) (L k a : Nat) (M' : mM) : Prop := RB M' z r w T A B D N C n p O P K ∧ FI (rdS r p O P) M0 M' ∧ (∀ i, i ≠ 3 → i ≠ 4 → i ≠ 5 → i ≠ 12 → i ≠ 14 → mI M' r i = mI M0 r i) ∧ (mI M0 r 3 ≠ 0 → mI M' r 3 = mI M0 r 3) ∧ (∀ i, 6 ≤ i → i ≤ 9 → mI M' (r + i) = mI M0 (r + i)) ∧ (∀ i, i ≠ 2 → mI M' p i = mI M0 p i) ∧ (∀ i, i < s → mI M' O i = mI M0 O i ∧ mI M' P i = mI M0 P i) ∧ (∀ i, i < k → mI M' (r + 1) i = mI M0 (r + 1) i) ∧ ∃ H' L', RG M' r p O P n s V F ns d0 H' L' k a 0 ∧ L ≤ L' ∧ ∀ i, i ≤ L → H' i = H i
/-- operations that are grouped -/
def grpO (o : Int) : Prop := (19 ≤ o ∧ o ≤ 31) ∨ o = 40 ∨ o = 41 ∨ o = 42
/-- kinds, faults and depth are as they will be -/
def gJ (M0 : mM) (z r w T A B D N C n p O P K d0 k : Nat) (M : mM) : Prop := RB M z r w T A B D N C n p O P K ∧ FI (rdS r p O P) M0 M ∧ (∀ i, i ≠ 3 → i ≠ 4 → i ≠ 5 → i ≠ 12 → i ≠ 14 → mI M r i = mI M0 r i) ∧ (mI M r 12 = k ∧ mI M r 14 = ((uw 0 + skk M0 r k : Nat) : Int) ∧ mI M r 5 = ((d0 + sdp M0 r k : Nat) : Int)) ∧ (mI M0 r 3 ≠ 0 → mI M r 3 = mI M0 r 3) ∧ (∀ b, b ≠ r → b ≠ r + 5 → mI M b = mI M0 b) ∧ (∀ j, mI M (r + 5) j = 0 ∨ mI M (r + 5) j = 1)
end
end
