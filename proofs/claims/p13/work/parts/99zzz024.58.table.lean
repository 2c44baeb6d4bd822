/-! The solver's table of fractions. -/
/-- a value that 56 parts hold -/
def Sml (x : Rat) : Prop := ∃ E z : Int, 0 < E ∧ E < 16777216 ^ 56 ∧ x * (E : Rat) = (z : Rat) ∧ x ≤ 1 ∧ -1 ≤ x
theorem fv_sd {M : mM} {f r : Nat} (hF : Fq M f r) : fv M f * (sd M f : Rat) = (sn M f : Rat) := by
  have p : 0 < sd M f := hF.2.2.2.2
  have e := Rat.mul_inv_cancel _ (ic_ne p)
  unfold fv
  grind
theorem ic_le {x y : Int} (h : (x : Rat) ≤ (y : Rat)) : x ≤ y := by exact_mod_cast h
theorem sml_size {M : mM} {f r : Nat} (hF : Fq M f r) (hC : Fc M f) (h : Sml (fv M f)) : mI M (f + 1) 1 ≤ 56 ∧ mI M (f + 3) 1 ≤ 56 := by
  obtain ⟨E, z, h0, h1, h2, h3, h4⟩ := h
  have p : 0 < sd M f := hF.2.2.2.2
  have pr : (0 : Rat) ≤ (sd M f : Rat) := Rat.le_of_lt (Rat.intCast_pos.2 p)
  have e := fv_sd hF
  have a1 : 0 ≤ (1 - fv M f) * (sd M f : Rat) := Rat.mul_nonneg (by grind) pr
  have a2 : 0 ≤ (1 + fv M f) * (sd M f : Rat) := Rat.mul_nonneg (by grind) pr
  have b1 : sn M f ≤ sd M f := ic_le (by grind)
  have b2 : - sd M f ≤ sn M f := ic_le (by rw [Rat.intCast_neg]; grind)
  exact fc_size hF hC h2 h0 h1 b1 b2
/-- m rows hold A -/
def Tb (M : mM) (s m : Nat) (A : Nat → Nat → Rat) : Prop := ∀ i j, i < m → j ≤ m → Fq M (cel s i j) 56 ∧ Fc M (cel s i j) ∧ fv M (cel s i j) = A i j
theorem fv_out {S : Nat → Prop} {M M' : mM} {f r : Nat} (h : Fq M f r) (k : FI S M M') (hs : ∀ x, S x → x < f ∨ f + 4 < x) : fv M' f = fv M f := by
  have e := h.out k hs
  unfold fv
  rw [e.2.1, e.2.2.1]
theorem Tb.out {S : Nat → Prop} {M M' : mM} {s m : Nat} {A : Nat → Nat → Rat} (h : Tb M s m A) (k : FI S M M') (hs : ∀ x, S x → x < s + 12868) : Tb M' s m A := by
  intro i j hi hj
  obtain ⟨h1, h2, h3⟩ := h i j hi hj
  have hs' : ∀ x, S x → x < cel s i j ∨ cel s i j + 4 < x := fun x q => Or.inl (by have := hs x q; unfold cel; omega)
  exact ⟨(h1.out k hs').1, h2.out h1 k hs', by rw [fv_out h1 k hs', h3]⟩
/-- one cell is written anew -/
theorem Tb.put {M M' : mM} {s m i j : Nat} {A : Nat → Nat → Rat} {v : Rat} (h : Tb M s m A) (hm : m ≤ 40) (hi : i < m) (hj : j ≤ m) (k : FI (fS (cel s i j)) M M') (h1 : Fq M' (cel s i j) 56) (h2 : Fc M' (cel s i j)) (h3 : fv M' (cel s i j) = v) : Tb M' s m (fun a b => if a = i ∧ b = j then v else A a b) := by
  intro a b ha hb
  by_cases q : a = i ∧ b = j
  · obtain ⟨q1, q2⟩ := q
    subst q1 q2
    exact ⟨h1, h2, h3.trans (if_pos ⟨rfl, rfl⟩).symm⟩
  · obtain ⟨g1, g2, g3⟩ := h a b ha hb
    have hs' : ∀ x, fS (cel s i j) x → x < cel s a b ∨ cel s a b + 4 < x := fun x w => by
      have w' : cel s i j ≤ x ∧ x ≤ cel s i j + 4 := w
      unfold cel at w' ⊢
      by_cases z : a = i
      · subst z
        have : b ≠ j := fun y => q ⟨rfl, y⟩
        omega
      · omega
    refine ⟨(g1.out k hs').1, g2.out g1 k hs', ?_⟩
    rw [fv_out g1 k hs', g3]
    exact (if_neg q).symm
/-- the solver's other fractions have room -/
def Wk (M : mM) (s : Nat) : Prop := Sz M (s + 1) ∧ Ft M (s + 42) 8 ∧ Ft M (s + 47) 56 ∧ Ft M (s + 52) 900 ∧ Ft M (s + 57) 900 ∧ Ft M (s + 62) 900
theorem fc_copy {M M' : mM} {a b : Nat} (hC : Fc M b) (e1 : wv M' (a + 1) = wv M (b + 1)) (e2 : wv M' (a + 3) = wv M (b + 3)) (e3 : mI M' a 2 = mI M b 2) : Fc M' a ∧ fv M' a = fv M b := by
  refine ⟨?_, ?_⟩
  · unfold Fc xn at hC ⊢
    rw [e1, e2, e3]
    exact hC
  · unfold fv sn sd
    rw [e1, e2, e3]
