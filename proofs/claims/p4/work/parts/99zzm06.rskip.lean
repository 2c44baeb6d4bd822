/-! The reference's words, exactly. -/
/-- the text's characters, and how many -/
abbrev txc (M : mM) (a : Nat) : Nat → Int := nt M (mR M a 2)
def txn (M : mM) (a : Nat) : Nat := (ln M (mR M a 2)).toNat
/-- what wordKind answers -/
def WKx (G : mG) (kw : (Nat → Int) → Nat → Nat → Int) : Prop := ∀ (d a f e : Nat) (M : mM), mOk M → Wd M a → f < e → (e : Int) ≤ ln M (mR M a 2) → e ≤ f + 40 → ln M (mR M a 2) ≤ 16384 → Ci G y_MM_wordKind (d + 5) [vr a, vi f, vi e] M (fun x M' => M' = M ∧ (1 ≤ x ∧ x ≤ 15 ∧ x ≠ 2) ∧ x = kw (txc M a) f e)
/-- c words have been cut, at place i -/
def rwI (kw : (Nat → Int) → Nat → Nat → Int) (C : Nat → Int) (n : Nat) (a c i : Nat) (M5 : mM) : Prop := (∀ j, j < c → pwq C n j < n ∧ wkq (kw C) C n (pwq C n j) ≠ 39 ∧ nt M5 (a + 5) j = wkq (kw C) C n (pwq C n j) ∧ nt M5 (a + 7) j = pwq C n j ∧ nt M5 (a + 9) j = weq C n (pwq C n j)) ∧ i = pwq C n c
/-- the reference's words: N of them, the last the end or a wrong one -/
def rwx (kw : (Nat → Int) → Nat → Nat → Int) (C : Nat → Int) (n : Nat) (a N : Nat) (M5 : mM) : Prop := (∀ j, j + 1 < N → pwq C n j < n ∧ wkq (kw C) C n (pwq C n j) ≠ 39 ∧ nt M5 (a + 5) j = wkq (kw C) C n (pwq C n j) ∧ nt M5 (a + 7) j = pwq C n j ∧ nt M5 (a + 9) j = weq C n (pwq C n j)) ∧ ((nt M5 (a + 5) (N - 1) = 0 ∧ pwq C n (N - 1) = n ∧ nt M5 (a + 7) (N - 1) = n) ∨ (nt M5 (a + 5) (N - 1) = 39 ∧ pwq C n (N - 1) < n ∧ wkq (kw C) C n (pwq C n (N - 1)) = 39 ∧ nt M5 (a + 7) (N - 1) = pwq C n (N - 1)))
section LXX
variable {G : mG} {d a : Nat} {M : mM} {kw : (Nat → Int) → Nat → Nat → Int}
theorem lt_lq (i : Nat) (h : 0 ≤ ln M (mR M a 2)) : lt M a i = lq (txc M a) (txn M a) i := by
  unfold lt lq txn
  by_cases y : (i : Int) < ln M (mR M a 2)
  · rw [if_pos y, if_pos (by omega)]
  · rw [if_neg y, if_neg (by omega)]
theorem x_MM_skip {i : Nat} (hi : (i : Int) ≤ 20000) (hO : mOk M) (h : Wd M a) (hT : ln M (mR M a 2) ≤ 16384) (hin : (i : Int) ≤ ln M (mR M a 2)) : Ci G y_MM_skip (d + 2) [vr a, vi i] M (fun x M' => M' = M ∧ x = (skp (txc M a) (txn M a) i : Int)) := by
  have hp := h.tape.2.1
  have hN := (h.nu hp).1
  have ht0 := h.t0
  have el : mI M (mR M a 2) 1 = ln M (mR M a 2) := rfl
  refine k_MM_skip hO ⟨by omega, by omega⟩ ?_
  suffices H : ∀ (t j : Nat), t = (ln M (mR M a 2)).toNat + 2 - j → i ≤ j → (j : Int) ≤ ln M (mR M a 2) → ((skp (txc M a) (txn M a) i = skq (txc M a) (txn M a - j) false j → h_MM_skip_2 G (d + 1) a j M (fun x M' => M' = M ∧ x = (skp (txc M a) (txn M a) i : Int)) ) ∧ ((j : Int) < ln M (mR M a 2) → lt M a j ≠ 10 → skp (txc M a) (txn M a) i = skq (txc M a) (txn M a - j) true j → h_MM_skip_44 G (d + 1) a j M (fun x M' => M' = M ∧ x = (skp (txc M a) (txn M a) i : Int)))) from
    (H _ i rfl (by omega) hin).1 rfl
  intro t
  induction t with
  | zero =>
    intro j hj hij hjT
    refine ⟨fun hX => k_MM_skip_2 hO ⟨by omega, by omega⟩ ?_, fun w => by omega⟩
    rw [el]
    refine ⟨h.1.1, hN, fun _ => ⟨rfl, ?_⟩, fun w => by omega⟩
    rw [hX, show txn M a - j = 0 by unfold txn; omega]; rfl
  | succ t ih =>
    intro j hj hij hjT
    have h44 : (j : Int) < ln M (mR M a 2) → lt M a j ≠ 10 → skp (txc M a) (txn M a) i = skq (txc M a) (txn M a - j) true j → h_MM_skip_44 G (d + 1) a j M (fun x M' => M' = M ∧ x = (skp (txc M a) (txn M a) i : Int)) := fun hjl h10 hX => by
      have nx := ih (j + 1) (by omega) (by omega) (by omega)
      have elj : lt M a j = txc M a j := by unfold lt; rw [if_pos hjl]
      rw [show txn M a - j = (txn M a - (j + 1)) + 1 by unfold txn; omega, skq_rem (Or.inr ⟨rfl, by rw [← elj]; exact h10⟩)] at hX
      refine k_MM_skip_44 hO ⟨by omega, by omega⟩ ?_
      rw [el]
      refine ⟨h.1.1, hN, fun w => by omega, fun _ => (s_MM_letter (by omega) hO h).mono (fun x M1 h1 => ?_)⟩
      obtain ⟨e1, hx⟩ := h1
      subst e1
      refine ⟨by rw [hx]; exact lt_i32 hO, hO, fun w => absurd (hx.symm.trans w) h10, fun _ => ?_⟩
      -- the next letter
      by_cases q : ((j + 1 : Nat) : Int) < ln M1 (mR M1 a 2)
      · by_cases q2 : lt M1 a (j + 1) = 10
        · refine k_MM_skip_44 hO ⟨by omega, by omega⟩ ?_
          rw [el]
          refine ⟨h.1.1, hN, fun w => by omega, fun _ => (s_MM_letter (i := j + 1) (by omega) hO h).mono (fun y M2 h2 => ?_)⟩
          obtain ⟨e2, hy⟩ := h2
          subst e2
          have el2 : lt M2 a (j + 1) = txc M2 a (j + 1) := by unfold lt; rw [if_pos q]
          have hX2 : skp (txc M2 a) (txn M2 a) i = skq (txc M2 a) (txn M2 a - (j + 1)) false (j + 1) := by
            rw [hX, show txn M2 a - (j + 1) = (txn M2 a - (j + 1 + 1)) + 1 by unfold txn; omega, skq_bl (by rw [← el2, q2]; decide) (by rw [← el2, q2]; unfold blq; omega), skq_bl (by rw [← el2, q2]; decide) (by rw [← el2, q2]; unfold blq; omega)]
          exact ⟨by rw [hy]; exact lt_i32 hO, hO, fun _ => nx.1 hX2, fun w => absurd (hy.trans q2) w⟩
        · exact nx.2 q q2 hX
      · refine k_MM_skip_44 hO ⟨by omega, by omega⟩ ?_
        rw [el]
        refine ⟨h.1.1, hN, fun _ => nx.1 ?_, fun w => by omega⟩
        rw [hX, show txn M1 a - (j + 1) = 0 by unfold txn; omega]; rfl
    refine ⟨fun hX => k_MM_skip_2 hO ⟨by omega, by omega⟩ ?_, h44⟩
    rw [el]
    refine ⟨h.1.1, hN, fun _ => ⟨rfl, ?_⟩, fun w => ?_⟩
    · rw [hX, show txn M a - j = 0 by unfold txn; omega]; rfl
    have hjl : (j : Int) < ln M (mR M a 2) := by omega
    have nx := ih (j + 1) (by omega) (by omega) (by omega)
    have elj : lt M a j = txc M a j := by unfold lt; rw [if_pos hjl]
    have ef : txn M a - j = (txn M a - (j + 1)) + 1 := by unfold txn; omega
    have h35 : lt M a j = 35 → skp (txc M a) (txn M a) i = skq (txc M a) (txn M a - j) true j := fun q => by rw [hX, ef, skq_rem (Or.inl (by rw [← elj]; exact q)), skq_rem (Or.inl (by rw [← elj]; exact q))]
    have hbl : blq (lt M a j) → skp (txc M a) (txn M a) i = skq (txc M a) (txn M a - (j + 1)) false (j + 1) := fun q => by
      have n35 : ¬ (txc M a j = 35 ∨ (false = true ∧ txc M a j ≠ 10)) := by rw [← elj]; unfold blq at q; rintro (z | z); omega; cases z.1
      rw [hX, ef, skq_bl n35 (by rw [← elj]; exact q)]
    have hen : ¬ blq (lt M a j) → lt M a j ≠ 35 → skp (txc M a) (txn M a) i = j := fun q q2 => by
      have n35 : ¬ (txc M a j = 35 ∨ (false = true ∧ txc M a j ≠ 10)) := by rw [← elj]; rintro (z | z); exact q2 z; cases z.1
      rw [hX, ef, skq_end n35 (by rw [← elj]; exact q)]
    clear hX
    refine (s_MM_letter (by omega) hO h).mono (fun x M1 h1 => ?_)
    obtain ⟨e1, hx⟩ := h1
    subst e1
    refine ⟨by rw [hx]; exact lt_i32 hO, hO, k_MM_isBlank hO (by rw [hx]; exact lt_i32 hO) (fun v hv => ?_)⟩
    have hv01 : i32 v := ⟨by split at hv <;> omega, by split at hv <;> omega⟩
    have hvb : v ≠ 0 ↔ blq x := by
      rw [hv]
      unfold blq
      split <;> omega
    rw [hx] at hvb
    refine ⟨hv01, hO, fun v0 => ⟨h.1.1, (s_MM_letter (by omega) hO h).mono (fun y M2 h2 => ?_)⟩, fun v0 => ⟨h.1.1, (s_MM_letter (by omega) hO h).mono (fun y M2 h2 => ?_)⟩⟩
    · obtain ⟨e2, hy⟩ := h2
      subst e2
      refine ⟨by rw [hy]; exact lt_i32 hO, hO, fun y35 => ⟨h.1.1, (s_MM_letter (by omega) hO h).mono (fun z M3 h3 => ?_)⟩, fun y35 => ⟨rfl, by rw [hen (fun q => hvb.mpr q v0) (by rw [← hy]; exact y35)]⟩⟩
      obtain ⟨e3, hz⟩ := h3
      subst e3
      exact ⟨by rw [hz]; exact lt_i32 hO, hO, fun z35 => h44 hjl (by rw [← hz, z35]; omega) (h35 (by rw [← hz]; exact z35)), fun z35 => absurd (hz.trans (hy.symm.trans y35)) z35⟩
    · obtain ⟨e2, hy⟩ := h2
      subst e2
      exact ⟨by rw [hy]; exact lt_i32 hO, hO, fun y35 => h44 hjl (by rw [← hy, y35]; omega) (h35 (by rw [← hy]; exact y35)), fun y35 => nx.1 (hbl (hvb.mp v0))⟩

theorem x_MM_signKind {i : Nat} (hi : (i : Int) ≤ 20000) (hO : mOk M) (h : Wd M a) : Ci G y_MM_signKind (d + 2) [vr a, vi i] M (fun x M' => M' = M ∧ x = sgk (lt M a i) (lt M a (i + 1))) := by
  refine k_MM_signKind hO ⟨by omega, by omega⟩ ⟨h.1.1, ?_⟩
  rw [show (i : Int) + 1 = ((i + 1 : Nat) : Int) by omega]
  refine (s_MM_letter (i := i + 1) (by omega) hO h).mono (fun x M1 h1 => ?_)
  obtain ⟨e1, hx⟩ := h1
  subst e1
  refine ⟨by rw [hx]; exact lt_i32 hO, hO, h.1.1, (s_MM_letter (by omega) hO h).mono (fun y M2 h2 => ?_)⟩
  obtain ⟨e2, hy⟩ := h2
  subst e2
  refine ⟨by rw [hy]; exact lt_i32 hO, hO, ?_⟩
  rw [← hx, ← hy]
  exact ⟨fun e v hv => ⟨rfl, by rw [hv, e]; rfl⟩, fun n33 => ⟨fun e => ⟨rfl, by rw [e]; rfl⟩, fun n37 => ⟨fun e => ⟨rfl, by rw [e]; rfl⟩, fun n38 => ⟨fun e => ⟨rfl, by rw [e]; rfl⟩, fun n39 => ⟨fun e => ⟨rfl, by rw [e]; rfl⟩, fun n40 => ⟨fun e => ⟨rfl, by rw [e]; rfl⟩, fun n41 => ⟨fun e => ⟨rfl, by rw [e]; rfl⟩, fun n42 => ⟨fun e => ⟨rfl, by rw [e]; rfl⟩, fun n43 => ⟨fun e => ⟨rfl, by rw [e]; rfl⟩, fun n44 => ⟨fun e v hv => ⟨rfl, by rw [hv, e]; rfl⟩, fun n45 => ⟨fun e v hv => ⟨rfl, by rw [hv, e]; rfl⟩, fun n46 => ⟨fun e => ⟨rfl, by rw [e]; rfl⟩, fun n47 => ⟨fun e => ⟨rfl, by rw [e]; rfl⟩, fun n58 => ⟨fun e => ⟨rfl, by rw [e]; rfl⟩, fun n59 => ⟨fun e v hv => ⟨rfl, by rw [hv, e]; rfl⟩, fun n60 => ⟨fun e => ⟨rfl, by rw [e]; rfl⟩, fun n61 => ⟨fun e v hv => ⟨rfl, by rw [hv, e]; rfl⟩, fun n62 => ⟨fun e => ⟨rfl, by rw [e]; rfl⟩, fun n63 => ⟨fun e => ⟨rfl, by rw [e]; rfl⟩, fun n124 => ⟨rfl, by unfold sgk; rw [if_neg n46, if_neg n45, if_neg n33, if_neg n60, if_neg n62, if_neg n61, if_neg n43, if_neg n42, if_neg n47, if_neg n37, if_neg n38, if_neg n124, if_neg n63, if_neg n58, if_neg n59, if_neg n44, if_neg n40, if_neg n41, if_neg n39]⟩⟩⟩⟩⟩⟩⟩⟩⟩⟩⟩⟩⟩⟩⟩⟩⟩⟩⟩⟩
end LXX
