/-! The reference: cutting the text into words. -/
/-- the letter at i -/
def lt (M : mM) (a i : Nat) : Int := if (i : Int) < ln M (mR M a 2) then nt M (mR M a 2) i else 0
def isL (c : Int) : Prop := (97 ≤ c ∧ c ≤ 122) ∨ (65 ≤ c ∧ c ≤ 90)
section LX
variable {G : mG} {d a : Nat} {M : mM}
theorem Wd.t0 (h : Wd M a) : 0 ≤ ln M (mR M a 2) := (h.nu h.tape.2.1).2.2.2.1.1
theorem s_MM_letter {i : Nat} (hi : (i : Int) < 2147483648) (hO : mOk M) (h : Wd M a) : Ci G y_MM_letter (d + 1) [vr a, vi i] M (fun x M' => M' = M ∧ x = lt M a i) := by
  have hp := h.tape.2.1
  have el : mI M (mR M a 2) 1 = ln M (mR M a 2) := rfl
  refine k_MM_letter hO ⟨by omega, by omega⟩ ?_
  rw [el]
  unfold lt
  refine ⟨h.1.1, (h.nu hp).1, fun w => ⟨rfl, by rw [if_neg (by omega)]⟩, fun w => (s_MN_at hO (h.nu hp) (by omega)).mono (fun x M1 h1 => ?_)⟩
  obtain ⟨e1, hx⟩ := h1
  subst e1
  refine ⟨?_, hO, rfl, by rw [if_pos (by omega)]; exact hx⟩
  rw [hx]
  exact (hO _ _).1
theorem lt_i32 (hO : mOk M) {i : Nat} : i32 (lt M a i) := by
  unfold lt
  split
  · exact (hO _ _).1
  · exact ⟨by omega, by omega⟩
theorem s_MM_skip {i : Nat} (hi : (i : Int) ≤ 20000) (hO : mOk M) (h : Wd M a) (hT : ln M (mR M a 2) ≤ 16384) : Ci G y_MM_skip (d + 2) [vr a, vi i] M (fun x M' => M' = M ∧ ∃ j : Nat, x = j ∧ i ≤ j ∧ ((j : Int) ≤ ln M (mR M a 2) ∨ j = i)) := by
  have hp := h.tape.2.1
  have hN := (h.nu hp).1
  have ht0 := h.t0
  have el : mI M (mR M a 2) 1 = ln M (mR M a 2) := rfl
  refine k_MM_skip hO ⟨by omega, by omega⟩ ?_
  suffices H : ∀ (t j : Nat), t = (ln M (mR M a 2)).toNat + 2 - j → i ≤ j → ((j : Int) ≤ ln M (mR M a 2) ∨ j = i) → (h_MM_skip_2 G (d + 1) a j M (fun x M' => M' = M ∧ ∃ j : Nat, x = j ∧ i ≤ j ∧ ((j : Int) ≤ ln M (mR M a 2) ∨ j = i)) ∧ ((j : Int) < ln M (mR M a 2) → lt M a j ≠ 10 → h_MM_skip_44 G (d + 1) a j M (fun x M' => M' = M ∧ ∃ j : Nat, x = j ∧ i ≤ j ∧ ((j : Int) ≤ ln M (mR M a 2) ∨ j = i)))) from
    (H _ i rfl (by omega) (Or.inr rfl)).1
  intro t
  induction t with
  | zero =>
    intro j hj hij hjT
    refine ⟨k_MM_skip_2 hO ⟨by omega, by omega⟩ ?_, fun w => by omega⟩
    rw [el]
    exact ⟨h.1.1, hN, fun _ => ⟨rfl, j, rfl, hij, hjT⟩, fun w => by omega⟩
  | succ t ih =>
    intro j hj hij hjT
    have h44 : (j : Int) < ln M (mR M a 2) → lt M a j ≠ 10 → h_MM_skip_44 G (d + 1) a j M (fun x M' => M' = M ∧ ∃ j : Nat, x = j ∧ i ≤ j ∧ ((j : Int) ≤ ln M (mR M a 2) ∨ j = i)) := fun hjl h10 => by
      have nx := ih (j + 1) (by omega) (by omega) (Or.inl (by omega))
      refine k_MM_skip_44 hO ⟨by omega, by omega⟩ ?_
      rw [el]
      refine ⟨h.1.1, hN, fun w => by omega, fun _ => (s_MM_letter (by omega) hO h).mono (fun x M1 h1 => ?_)⟩
      obtain ⟨e1, hx⟩ := h1
      subst e1
      refine ⟨by rw [hx]; exact lt_i32 hO, hO, fun w => absurd (hx.symm.trans w) h10, fun _ => ?_⟩
      -- the next letter
      by_cases q : ((j + 1 : Nat) : Int) < ln M1 (mR M1 a 2)
      · by_cases q2 : lt M1 a (j + 1) = 10
        · refine k_MM_skip_44 hO ⟨by omega, by omega⟩ ?_
          rw [el]
          refine ⟨h.1.1, hN, fun w => by omega, fun _ => (s_MM_letter (i := j + 1) (by omega) hO h).mono (fun y M2 h2 => ?_)⟩
          obtain ⟨e2, hy⟩ := h2
          subst e2
          exact ⟨by rw [hy]; exact lt_i32 hO, hO, fun _ => nx.1, fun w => absurd (hy.trans q2) w⟩
        · exact nx.2 q q2
      · refine k_MM_skip_44 hO ⟨by omega, by omega⟩ ?_
        rw [el]
        exact ⟨h.1.1, hN, fun _ => nx.1, fun w => by omega⟩
    refine ⟨k_MM_skip_2 hO ⟨by omega, by omega⟩ ?_, h44⟩
    rw [el]
    refine ⟨h.1.1, hN, fun _ => ⟨rfl, j, rfl, hij, hjT⟩, fun w => ?_⟩
    have hjl : (j : Int) < ln M (mR M a 2) := by omega
    have nx := ih (j + 1) (by omega) (by omega) (Or.inl (by omega))
    refine (s_MM_letter (by omega) hO h).mono (fun x M1 h1 => ?_)
    obtain ⟨e1, hx⟩ := h1
    subst e1
    refine ⟨by rw [hx]; exact lt_i32 hO, hO, k_MM_isBlank hO (by rw [hx]; exact lt_i32 hO) (fun v hv => ?_)⟩
    have hv01 : i32 v := ⟨by split at hv <;> omega, by split at hv <;> omega⟩
    refine ⟨hv01, hO, fun v0 => ⟨h.1.1, (s_MM_letter (by omega) hO h).mono (fun y M2 h2 => ?_)⟩, fun v0 => ⟨h.1.1, (s_MM_letter (by omega) hO h).mono (fun y M2 h2 => ?_)⟩⟩
    · obtain ⟨e2, hy⟩ := h2
      subst e2
      refine ⟨by rw [hy]; exact lt_i32 hO, hO, fun y35 => ⟨h.1.1, (s_MM_letter (by omega) hO h).mono (fun z M3 h3 => ?_)⟩, fun _ => ⟨rfl, j, rfl, hij, hjT⟩⟩
      obtain ⟨e3, hz⟩ := h3
      subst e3
      exact ⟨by rw [hz]; exact lt_i32 hO, hO, fun z35 => h44 hjl (by rw [← hz, z35]; omega), fun _ => nx.1⟩
    · obtain ⟨e2, hy⟩ := h2
      subst e2
      exact ⟨by rw [hy]; exact lt_i32 hO, hO, fun y35 => h44 hjl (by rw [← hy, y35]; omega), fun _ => nx.1⟩
theorem s_MM_signKind {i : Nat} (hi : (i : Int) ≤ 20000) (hO : mOk M) (h : Wd M a) : Ci G y_MM_signKind (d + 2) [vr a, vi i] M (fun x M' => M' = M ∧ 16 ≤ x ∧ x ≤ 39 ∧ (x ≤ 20 → ((i + 1 : Nat) : Int) < ln M (mR M a 2))) := by
  have two : ∀ c : Int, c ≠ 0 → lt M a (i + 1) = c → ((i + 1 : Nat) : Int) < ln M (mR M a 2) := fun c hc e => by
    unfold lt at e
    by_cases q : ((i + 1 : Nat) : Int) < ln M (mR M a 2)
    · exact q
    · rw [if_neg q] at e; exact absurd e.symm hc
  refine k_MM_signKind hO ⟨by omega, by omega⟩ ⟨h.1.1, ?_⟩
  rw [show (i : Int) + 1 = ((i + 1 : Nat) : Int) by omega]
  refine (s_MM_letter (i := i + 1) (by omega) hO h).mono (fun x M1 h1 => ?_)
  obtain ⟨e1, hx⟩ := h1
  subst e1
  refine ⟨by rw [hx]; exact lt_i32 hO, hO, h.1.1, (s_MM_letter (by omega) hO h).mono (fun y M2 h2 => ?_)⟩
  obtain ⟨e2, hy⟩ := h2
  subst e2
  have one : ∀ c : Int, 20 < c → c ≤ 39 → (M2 = M2 ∧ 16 ≤ c ∧ c ≤ 39 ∧ (c ≤ 20 → ((i + 1 : Nat) : Int) < ln M2 (mR M2 a 2))) := fun c h1 h2 => ⟨rfl, by omega, by omega, fun w => by omega⟩
  have pair : ∀ (b k l v : Int), b ≠ 0 → 16 ≤ k → k ≤ 20 → 20 < l → l ≤ 39 → v = (if x = b then k else l) → (M2 = M2 ∧ 16 ≤ v ∧ v ≤ 39 ∧ (v ≤ 20 → ((i + 1 : Nat) : Int) < ln M2 (mR M2 a 2))) := fun b k l v hb k1 k2 l1 l2 hv => by
    by_cases q : x = b
    · rw [if_pos q] at hv
      exact ⟨rfl, by omega, by omega, fun _ => two b hb (hx.symm.trans q)⟩
    · rw [if_neg q] at hv
      exact ⟨rfl, by omega, by omega, fun w => by omega⟩
  refine ⟨by rw [hy]; exact lt_i32 hO, hO, fun _ v hv => pair 61 18 31 v (by omega) (by omega) (by omega) (by omega) (by omega) hv, fun _ => ⟨fun _ => one _ (by omega) (by omega), fun _ => ⟨fun _ => one _ (by omega) (by omega), fun _ => ⟨fun _ => one _ (by omega) (by omega), fun _ => ⟨fun _ => one _ (by omega) (by omega), fun _ => ⟨fun _ => one _ (by omega) (by omega), fun _ => ⟨fun _ => one _ (by omega) (by omega), fun _ => ⟨fun _ => one _ (by omega) (by omega), fun _ => ⟨fun _ => one _ (by omega) (by omega), fun _ => ⟨fun _ v hv => pair 62 17 25 v (by omega) (by omega) (by omega) (by omega) (by omega) hv, fun _ => ⟨fun _ v hv => pair 46 16 39 v (by omega) (by omega) (by omega) (by omega) (by omega) hv, fun _ => ⟨fun _ => one _ (by omega) (by omega), fun _ => ⟨fun _ => one _ (by omega) (by omega), fun _ => ⟨fun _ => one _ (by omega) (by omega), fun _ => ⟨fun _ v hv => pair 61 19 21 v (by omega) (by omega) (by omega) (by omega) (by omega) hv, fun _ => ⟨fun _ => one _ (by omega) (by omega), fun _ => ⟨fun _ v hv => pair 61 20 22 v (by omega) (by omega) (by omega) (by omega) (by omega) hv, fun _ => ⟨fun _ => one _ (by omega) (by omega), fun _ => ⟨fun _ => one _ (by omega) (by omega), fun _ => one _ (by omega) (by omega)⟩⟩⟩⟩⟩⟩⟩⟩⟩⟩⟩⟩⟩⟩⟩⟩⟩⟩⟩
end LX
