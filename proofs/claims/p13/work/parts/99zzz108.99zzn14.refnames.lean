/-! The reference's names and the pure ones. -/
section RNM
variable {a g N K : Nat} {M : mM} {co : Int}
theorem smx.symm {x y : Nat} (h : smx M a x y) : smx M a y x := ⟨h.1.symm, fun i hi => (h.2 i (by have := h.1; omega)).symm⟩
theorem smx.trans {x y z : Nat} (h : smx M a x y) (k : smx M a y z) : smx M a x z := ⟨by rw [k.1, h.1], fun i hi => (h.2 i hi).trans (k.2 i (by have := h.1; omega))⟩
theorem fdx_ex (y : Nat) : ∀ K, ∃ r, fdx M a K y r
  | 0 => ⟨-1, Or.inl ⟨rfl, fun k hk => absurd hk (by omega)⟩⟩
  | K + 1 => by
    by_cases c : smx M a (nt M (a + 85) K).toNat y
    · exact ⟨K, Or.inr ⟨K, rfl, by omega, c, fun k h1 h2 => absurd h1 (by omega)⟩⟩
    · obtain ⟨r, h | ⟨q, h1, h2, h3, h4⟩⟩ := fdx_ex y K
      · refine ⟨r, Or.inl ⟨h.1, fun k hk => ?_⟩⟩
        by_cases e : k = K
        · rw [e]; exact c
        · exact h.2 k (by omega)
      · refine ⟨r, Or.inr ⟨q, h1, by omega, h3, fun k k1 k2 => ?_⟩⟩
        by_cases e : k = K
        · rw [e]; exact c
        · exact h4 k k1 (by omega)
theorem fdx_un {y : Nat} {r r' : Int} (h : fdx M a K y r) (h' : fdx M a K y r') : r = r' := by
  rcases h with ⟨h1, h2⟩ | ⟨q, h1, h2, h3, h4⟩ <;> rcases h' with ⟨k1, k2⟩ | ⟨q', k1, k2, k3, k4⟩
  · rw [h1, k1]
  · exact absurd k3 (h2 q' k2)
  · exact absurd h3 (k2 q h2)
  · have : q = q' := by
      rcases Nat.lt_trichotomy q q' with c | c | c
      · exact absurd k3 (h4 q' c k2)
      · exact c
      · exact absurd h3 (k4 q c h2)
    rw [h1, k1, this]
/-- the place of the word y among the names -/
noncomputable def fdn (M : mM) (a K y : Nat) : Int := Classical.choose (fdx_ex (M := M) (a := a) y K)
theorem fdn_x (y : Nat) : fdx M a K y (fdn M a K y) := Classical.choose_spec (fdx_ex y K)
theorem fdn_un {y : Nat} {r : Int} (h : fdx M a K y r) : r = fdn M a K y := fdx_un h (fdn_x y)
/-- how a name is resolved, and its kind -/
noncomputable def rvn (M : mM) (a K y : Nat) : Int := if nt M (a + 87) (fdn M a K y).toNat = 3 then 100 + nt M (a + 89) (fdn M a K y).toNat else nt M (a + 89) (fdn M a K y).toNat
noncomputable def Ern (M : mM) (a g K : Nat) (co : Int) (y : Nat) : Int := haveI := Classical.propDecidable (fdn M a K y = -1 ∨ (co ≠ 0 ∧ nt M (a + 87) (fdn M a K y).toNat ≠ 1)); if fdn M a K y = -1 ∨ (co ≠ 0 ∧ nt M (a + 87) (fdn M a K y).toNat ≠ 1) then -1 else tn M g (rvn M a K y)
theorem ur_n : URq M a g N K co (Ern M a g K co) (rvn M a K) := by
  intro y r _ _ h
  rw [fdn_un h]
  refine ⟨fun z => ?_, fun z => ?_⟩
  · unfold Ern; rw [if_pos z]
  · unfold Ern; rw [if_neg z]; exact ⟨rfl, rfl⟩
/-- the names of the reference are these -/
def RSq (M : mM) (a g K : Nat) (nms : List nm9) : Prop := nms.length = K ∧ (∀ q, q < K → ∃ e : nm9, nms[q]? = some e ∧ nt M (a + 85) q = e.1 ∧ nt M (a + 87) q = e.2.1 ∧ (1 ≤ e.2.1 ∧ e.2.1 ≤ 3) ∧ e.2.2.1 = tn M g (if nt M (a + 87) q = 3 then 100 + nt M (a + 89) q else nt M (a + 89) q) ∧ (e.2.1 = 1 → e.2.2.2 = vr9 e.2.2.1 (mL M (g + 16) (nt M (a + 89) q).toNat) (mL M (g + 17) (nt M (a + 89) q).toNat)) ∧ nt M (a + 89) q = (if e.2.1 = 3 then ((vcn (nms.take q) : Nat) : Int) else ((rcn (nms.take q) : Nat) : Int))) ∧ (∀ p q, p < q → q < K → ¬ smx M a (nt M (a + 85) p).toNat (nt M (a + 85) q).toNat) ∧ ∀ p q, p < q → q < K → nt M (a + 87) p = 3 → nt M (a + 87) q = 3 → nt M (a + 89) p ≠ nt M (a + 89) q
theorem RSq.fnd {nms : List nm9} (h : RSq M a g K nms) (y : Nat) : (fdn M a K y = -1 ∧ fnd9 (smx M a) nms y = none) ∨ ∃ (q : Nat) (e : nm9), fdn M a K y = q ∧ q < K ∧ nms[q]? = some e ∧ fnd9 (smx M a) nms y = some e := by
  obtain ⟨hl, hn, hu, -⟩ := h
  have at9 : ∀ {q : Nat} {e : nm9}, nms[q]? = some e → q < K := fun {q e} z => by
    rw [← hl]
    exact (List.getElem?_eq_some_iff.mp z).1
  have same : ∀ {q : Nat} {e : nm9}, nms[q]? = some e → (nt M (a + 85) q).toNat = e.1 := fun {q e} z => by
    obtain ⟨e', z1, z2, -⟩ := hn q (at9 z)
    have : e' = e := Option.some.inj (z1.symm.trans z)
    subst this
    rw [z2, Int.toNat_natCast]
  rcases fdn_x (M := M) (a := a) (K := K) y with ⟨h1, h2⟩ | ⟨q, h1, h2, h3, -⟩
  · refine Or.inl ⟨h1, ?_⟩
    unfold fnd9
    rw [List.find?_eq_none]
    intro e he
    obtain ⟨q, z⟩ := List.mem_iff_getElem?.mp he
    simp only [decide_eq_true_eq]
    rw [← same z]
    exact h2 q (at9 z)
  · obtain ⟨e, z, -⟩ := hn q h2
    refine Or.inr ⟨q, e, h1, h2, z, ?_⟩
    unfold fnd9
    cases c : nms.find? (fun e => @decide (smx M a e.1 y) (Classical.propDecidable _)) with
    | none =>
      rw [List.find?_eq_none] at c
      have := c e (List.mem_of_getElem? z)
      simp only [decide_eq_true_eq] at this
      rw [← same z] at this
      exact absurd h3 this
    | some e' =>
      have m1 := List.find?_some c
      simp only [decide_eq_true_eq] at m1
      obtain ⟨q', z'⟩ := List.mem_iff_getElem?.mp (List.mem_of_find?_eq_some c)
      rw [← same z'] at m1
      have qq : q' = q := by
        rcases Nat.lt_trichotomy q' q with d | d | d
        · exact absurd (m1.trans h3.symm) (hu q' q d h2)
        · exact d
        · exact absurd (h3.trans m1.symm) (hu q q' d (at9 z'))
      subst qq
      rw [z] at z'
      exact z'.symm
theorem RSq.en {nms : List nm9} (h : RSq M a g K nms) (hc : co = 0 ∨ co = 1) : Ern M a g K co = E9 (smx M a) nms co := by
  funext y
  unfold Ern E9
  rcases h.fnd y with ⟨h1, h2⟩ | ⟨q, e, h1, h2, h3, h4⟩
  · rw [if_pos (Or.inl h1), h2]
  · rw [h4, h1, Int.toNat_natCast]
    obtain ⟨e', z1, z2, z3, z4, z5, -⟩ := h.2.1 q h2
    have : e' = e := Option.some.inj (z1.symm.trans h3)
    subst this
    show _ = if co = 1 ∧ e'.2.1 ≠ 1 then (-1 : Int) else e'.2.2.1
    by_cases c : co = 1 ∧ e'.2.1 ≠ 1
    · rw [if_pos c, if_pos (Or.inr ⟨by omega, by rw [z3]; omega⟩)]
    · rw [if_neg c, if_neg (by rw [z3]; omega), z5]
      unfold rvn
      rw [h1, Int.toNat_natCast]
end RNM
