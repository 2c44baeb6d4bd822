section
section
variable {G : mG} {d a : Nat} {M : mM} {kw : (Nat → Int) → Nat → Nat → Int}
theorem x_MM_skip {i : Nat} (hi : (i : Int) ≤ 20000) (hO : mOk M) (h : Wd M a) (hT : ln M (mR M a 2) ≤ 16384) (hin : (i : Int) ≤ ln M (mR M a 2)) : Ci G y_MM_skip (d + 2) [vr a, vi i] M (fun x M' => M' = M ∧ x = (skp (txc M a) (txn M a) i : Int)) := by
  have hp := h.tape.2.1
  have hN := (h.nu hp).1
  have ht0 := h.t0
  have el : mI M (mR M a 2) 1 = ln M (mR M a 2) := rfl
  refine k_MM_skip hO ⟨by omega, by omega⟩ ?_
  suffices H : ∀ (t j : Nat), t = (ln M (mR M a 2)).toNat + 2 - j → i ≤ j → (j : Int) ≤ ln M (mR M a 2) → ((skp (txc M a) (txn M a) i = skq (txc M a) (txn M a - j) false j → h_MM_skip_2 G (d + 1) a j M (fun x M' => M' = M ∧ x = (skp (txc M a) (txn M a) i : Int)) ) ∧ ((j : Int) < ln M (mR M a 2) → lt M a j ≠ 10 → skp (txc M a) (txn M a) i = skq (txc M a) (txn M a - j) true j → h_MM_skip_44 G (d + 1) a j M (fun x M' => M' = M ∧ x = (skp (txc M a) (txn M a) i : Int)))) from
    (H _ i rfl (by omega) hin).1 rfl
  intro t
  induction t with
  | zero =>
    intro j hj hij hjT
    refine ⟨fun hX => k_MM_skip_2 hO ⟨by omega, by omega⟩ ?_, fun w => by omega⟩
    rw [el]
    refine ⟨h.1.1, hN, fun _ => ⟨rfl, ?_⟩, fun w => by omega⟩
    rw [hX, show txn M a - j = 0 by unfold txn; omega]; rfl
  | succ t ih =>
    intro j hj hij hjT
    have h44 : (j : Int) < ln M (mR M a 2) → lt M a j ≠ 10 → skp (txc M a) (txn M a) i = skq (txc M a) (txn M a - j) true j → h_MM_skip_44 G (d + 1) a j M (fun x M' => M' = M ∧ x = (skp (txc M a) (txn M a) i : Int)) := fun hjl h10 hX => by
      have nx := ih (j + 1) (by omega) (by omega) (by omega)
      have elj : lt M a j = txc M a j := by unfold lt; rw [if_pos hjl]
      rw [show txn M a - j = (txn M a - (j + 1)) + 1 by unfold txn; omega, skq_rem (Or.inr ⟨rfl, by rw [← elj]; exact h10⟩)] at hX
      refine k_MM_skip_44 hO ⟨by omega, by omega⟩ ?_
      rw [el]
      refine ⟨h.1.1, hN, fun w => by omega, fun _ => (s_MM_letter (by omega) hO h).mono (fun x M1 h1 => ?_)⟩
      obtain ⟨e1, hx⟩ := h1
      subst e1
      refine ⟨by rw [hx]; exact lt_i32 hO, hO, fun w => absurd (hx.symm.trans w) h10, fun _ => ?_⟩
      -- the next letter
      by_cases q : ((j + 1 : Nat) : Int) < ln M1 (mR M1 a 2)
      · by_cases q2 : lt M1 a (j + 1) = 10
        · refine k_MM_skip_44 hO ⟨by omega, by omega⟩ ?_
          rw [el]
          refine ⟨h.1.1, hN, fun w => by omega, fun _ => (s_MM_letter (i := j + 1) (by omega) hO h).mono (fun y M2 h2 => ?_)⟩
          obtain ⟨e2, hy⟩ := h2
          subst e2
          have el2 : lt M2 a (j + 1) = txc M2 a (j + 1) := by unfold lt; rw [if_pos q]
          have hX2 : skp (txc M2 a) (txn M2 a) i = skq (txc M2 a) (txn M2 a - (j + 1)) false (j + 1) := by
            rw [hX, show txn M2 a - (j + 1) = (txn M2 a - (j + 1 + 1)) + 1 by unfold txn; omega, skq_bl (by rw [← el2, q2]; decide) (by rw [← el2, q2]; unfold blq; omega), skq_bl (by rw [← el2, q2]; decide) (by rw [← el2, q2]; unfold blq; omega)]
          exact ⟨by rw [hy]; exact lt_i32 hO, hO, fun _ => nx.1 hX2, fun w => absurd (hy.trans q2) w⟩
        · exact nx.2 q q2 hX
      · refine k_MM_skip_44 hO ⟨by omega, by omega⟩ ?_
        rw [el]
        refine ⟨h.1.1, hN, fun _ => nx.1 ?_, fun w => by omega⟩
        rw [hX, show txn M1 a - (j + 1) = 0 by unfold txn; omega]; rfl
    refine ⟨fun hX => k_MM_skip_2 hO ⟨by omega, by omega⟩ ?_, h44⟩
    rw [el]
    refine ⟨h.1.1, hN, fun _ => ⟨rfl, ?_⟩, fun w => ?_⟩
    · rw [hX, show txn M a - j = 0 by unfold txn; omega]; rfl
    have hjl : (j : Int) < ln M (mR M a 2) := by omega
    have nx := ih (j + 1) (by omega) (by omega) (by omega)
    have elj : lt M a j = txc M a j := by unfold lt; rw [if_pos hjl]
    have ef : txn M a - j = (txn M a - (j + 1)) + 1 := by unfold txn; omega
    have h35 : lt M a j = 35 → skp (txc M a) (txn M a) i = skq (txc M a) (txn M a - j) true j := fun q => by rw [hX, ef, skq_rem (Or.inl (by rw [← elj]; exact q)), skq_rem (Or.inl (by rw [← elj]; exact q))]
    have hbl : blq (lt M a j) → skp (txc M a) (txn M a) i = skq (txc M a) (txn M a - (j + 1)) false (j + 1) := fun q => by
      have n35 : ¬ (txc M a j = 35 ∨ (false = true ∧ txc M a j ≠ 10)) := by rw [← elj]; unfold blq at q; rintro (z | z); omega; cases z.1
      rw [hX, ef, skq_bl n35 (by rw [← elj]; exact q)]
    have hen : ¬ blq (lt M a j) → lt M a j ≠ 35 → skp (txc M a) (txn M a) i = j := fun q q2 => by
      have n35 : ¬ (txc M a j = 35 ∨ (false = true ∧ txc M a j ≠ 10)) := by rw [← elj]; rintro (z | z); exact q2 z; cases z.1
      rw [hX, ef, skq_end n35 (by rw [← elj]; exact q)]
    clear hX
    refine (s_MM_letter (by omega) hO h).mono (fun x M1 h1 => ?_)
    obtain ⟨e1, hx⟩ := h1
    subst e1
    refine ⟨by rw [hx]; exact lt_i32 hO, hO, k_MM_isBlank hO (by rw [hx]; exact lt_i32 hO) (fun v hv => ?_)⟩
    have hv01 : i32 v := ⟨by split at hv <;> omega, by split at hv <;> omega⟩
    have hvb : v ≠ 0 ↔ blq x := by
      rw [hv]
      unfold blq
      split <;> omega
    rw [hx] at hvb
    refine ⟨hv01, hO, fun v0 => ⟨h.1.1, (s_MM_letter (by omega) hO h).mono (fun y M2 h2 => ?_)⟩, fun v0 => ⟨h.1.1, (s_MM_letter (by omega) hO h).mono (fun y M2 h2 => ?_)⟩⟩
    · obtain ⟨e2, hy⟩ := h2
      subst e2
      refine ⟨by rw [hy]; exact lt_i32 hO, hO, fun y35 => ⟨h.1.1, (s_MM_letter (by omega) hO h).mono (fun z M3 h3 => ?_)⟩, fun y35 => ⟨rfl, by rw [hen (fun q => hvb.mpr q v0) (by rw [← hy]; exact y35)]⟩⟩
      obtain ⟨e3, hz⟩ := h3
      subst e3
      exact ⟨by rw [hz]; exact lt_i32 hO, hO, fun z35 => h44 hjl (by rw [← hz, z35]; omega) (h35 (by rw [← hz]; exact z35)), fun z35 => absurd (hz.trans (hy.symm.trans y35)) z35⟩
    · obtain ⟨e2, hy⟩ := h2
      subst e2
      exact ⟨by rw [hy]; exact lt_i32 hO, hO, fun y35 => h44 hjl (by rw [← hy, y35]; omega) (h35 (by rw [← hy]; exact y35)), fun y35 => nx.1 (hbl (hvb.mp v0))⟩

end
end
