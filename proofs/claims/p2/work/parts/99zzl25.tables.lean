/-! The class's top: its four tables (0 values, 1 withins, 2 earlier, 3 judged). -/
section NCL
variable {G : mG} {d t g s b i i0 j cn cc bc z : Nat} {v R k : Nat → Nat} {M M0 M' M1 : mM} {L : List Nat} {W : Nat → Nat} {T C : Nat → Prop} {r : Prop}
/-- where a table lies -/
def Tb1 (L : List Nat) (M : mM) (s b v R k : Nat) : Prop := RwT L M v R k ∧ (∀ i, i < k → b ≤ mR M R i) ∧ RwD M R k ∧ k ≤ 512 ∧ (s + 133 < v ∧ s + 133 < R)
/-- where the four tables lie -/
def Tb0 (L : List Nat) (M : mM) (s b : Nat) (v R k : Nat → Nat) : Prop := (∀ i, i < 4 → Tb1 L M s b (v i) (R i) (k i)) ∧ (∀ i j, i < 4 → j < 4 → i ≠ j → Rsp M (R i) (k i) (R j) (k j) ∧ v i ≠ v j ∧ R i ≠ R j)
/-- what a known table holds -/
def Tk (M : mM) (cn v R k : Nat) : Prop := mI M v 1 ≠ 0 → cn ≤ k ∧ Rsm M R cn 17 ∧ Rt1 M R cn
theorem NX.rwt {a Ra n : Nat} (q : NX L W T C r z M M') (hF : NF L W M) (h : RwT L M a Ra n) (ha : a ≠ z) (hR : Ra ≠ z) : RwT L M' a Ra n ∧ mR M' Ra = mR M Ra := by
  obtain ⟨h1, h2, h3, h4, ⟨h5, h6⟩, h7⟩ := h
  have oa := q.oth h5 ha
  have oR := q.oth h6 hR
  exact ⟨⟨by rw [oa.1]; exact h1, by rw [oa.2.2.1]; exact h2, by rw [oR.1]; exact h3, by rw [oR.2.1]; exact h4, ⟨q.oc hF h5, q.oc hF h6⟩, fun i hi => by rw [oR.2.2.1]; exact (q.frl hF (h7 i hi)).1⟩, oR.2.2.1⟩
theorem Tb1.nx {a Ra n : Nat} (h : Tb1 L M s b a Ra n) (q : NX L W T C r (s + 1) M M') (hF : NF L W M) : Tb1 L M' s b a Ra n ∧ mR M' Ra = mR M Ra := by
  obtain ⟨h1, h2, h3, h4, h5, h6⟩ := h
  obtain ⟨k1, k2⟩ := q.rwt hF h1 (by omega) (by omega)
  exact ⟨⟨k1, by rw [k2]; exact h2, by unfold RwD; rw [k2]; exact h3, h4, h5, h6⟩, k2⟩
theorem Tb0.nx (h : Tb0 L M s b v R k) (q : NX L W T C r (s + 1) M M') (hF : NF L W M) : Tb0 L M' s b v R k := by
  refine ⟨fun i hi => ((h.1 i hi).nx q hF).1, fun i j hi hj ij => ?_⟩
  obtain ⟨a1, a2⟩ := h.2 i j hi hj ij
  refine ⟨?_, a2⟩
  unfold Rsp
  rw [((h.1 i hi).nx q hF).2, ((h.1 j hj).nx q hF).2]
  exact a1
/-- a table of which nothing is touched holds what it held -/
theorem Tk.nx {a Ra n : Nat} (h : Tk M cn a Ra n) (h1 : Tb1 L M s b a Ra n) (q : NX L W T C r (s + 1) M M') (hF : NF L W M) (ha : ¬ C a) (hT : ∀ i, i < n → ¬ T (mR M Ra i + 1) ∧ ¬ T (mR M Ra i + 3) ∧ ¬ C (mR M Ra i)) : Tk M' cn a Ra n := by
  intro kn
  have e := ((h1.nx q hF).2)
  have oa := q.oth h1.1.2.2.2.2.1.1 (show a ≠ s + 1 by have := h1.2.2.2.2; omega)
  rw [oa.2.2.2 ha] at kn
  obtain ⟨k1, k2, k3⟩ := h kn
  refine ⟨k1, fun i hi => ?_, fun i hi => ?_⟩
  · rw [e]
    obtain ⟨t1, t3, -⟩ := hT i (by omega)
    have fl := h1.1.2.2.2.2.2 i (by omega)
    rw [(q.num hF fl.2.1 t1).2.2, (q.num hF fl.2.2 t3).2.2]
    exact k2 i hi
  · rw [e]
    obtain ⟨-, -, c⟩ := hT i (by omega)
    have fl := h1.1.2.2.2.2.2 i (by omega)
    rw [(q.frl hF fl).2 c]
    exact k3 i hi
end NCL
