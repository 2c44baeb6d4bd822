section
/-! The reference's words, exactly. -/
/-- the text's characters, and how many -/
abbrev txc (M : mM) (a : Nat) : Nat → Int := nt M (mR M a 2)
def txn (M : mM) (a : Nat) : Nat := (ln M (mR M a 2)).toNat
/-- what wordKind answers -/
def WKx (G : mG) (kw : (Nat → Int) → Nat → Nat → Int) : Prop := ∀ (d a f e : Nat) (M : mM), mOk M → Wd M a → f < e → (e : Int) ≤ ln M (mR M a 2) → e ≤ f + 40 → ln M (mR M a 2) ≤ 16384 → Ci G y_MM_wordKind (d + 5) [vr a, vi f, vi e] M (fun x M' => M' = M ∧ (1 ≤ x ∧ x ≤ 15 ∧ x ≠ 2) ∧ x = kw (txc M a) f e)
/-- c words have been cut, at place i -/
def rwI (kw : (Nat → Int) → Nat → Nat → Int) (C : Nat → Int) (n : Nat) (a c i : Nat) (M5 : mM) : Prop := (∀ j, j < c → pwq C n j < n ∧ wkq (kw C) C n (pwq C n j) ≠ 39 ∧ nt M5 (a + 5) j = wkq (kw C) C n (pwq C n j) ∧ nt M5 (a + 7) j = pwq C n j ∧ nt M5 (a + 9) j = weq C n (pwq C n j)) ∧ i = pwq C n c
/-- the reference's words: N of them, the last the end or a wrong one -/
def rwx (kw : (Nat → Int) → Nat → Nat → Int) (C : Nat → Int) (n : Nat) (a N : Nat) (M5 : mM) : Prop := (∀ j, j + 1 < N → pwq C n j < n ∧ wkq (kw C) C n (pwq C n j) ≠ 39 ∧ nt M5 (a + 5) j = wkq (kw C) C n (pwq C n j) ∧ nt M5 (a + 7) j = pwq C n j ∧ nt M5 (a + 9) j = weq C n (pwq C n j)) ∧ ((nt M5 (a + 5) (N - 1) = 0 ∧ pwq C n (N - 1) = n ∧ nt M5 (a + 7) (N - 1) = n) ∨ (nt M5 (a + 5) (N - 1) = 39 ∧ pwq C n (N - 1) < n ∧ wkq (kw C) C n (pwq C n (N - 1)) = 39 ∧ nt M5 (a + 7) (N - 1) = pwq C n (N - 1)))
section LXX
variable {G : mG} {d a : Nat} {M : mM} {kw : (Nat → Int) → Nat → Nat → Int}
theorem lt_lq (i : Nat) (h : 0 ≤ ln M (mR M a 2)) : lt M a i = lq (txc M a) (txn M a) i := by
  unfold lt lq txn
  by_cases y : (i : Int) < ln M (mR M a 2)
  · rw [if_pos y, if_pos (by omega)]
  · rw [if_neg y, if_neg (by omega)]
theorem x_MM_skip {i : Nat} (hi : (i : Int) ≤ 20000) (hO : mOk M) (h : Wd M a) (hT : ln M (mR M a 2) ≤ 16384) (hin : (i : Int) ≤ ln M (mR M a 2)) : Ci G y_MM_skip (d + 2) [vr a, vi i] M (fun x M' => M' = M ∧ x = (skp (txc M a) (txn M a) i : Int)) := by
  have hp := h.tape.2.1
  have hN := (h.nu hp).1
  have ht0 := h.t0
  have el : mI M (mR M a 2) 1 = ln M (mR M a 2) := rfl
  refine k_MM_skip hO ⟨by omega, by omega⟩ ?_
  suffices H : ∀ (t j : Nat), t = (ln M (mR M a 2)).toNat + 2 - j → i ≤ j → (j : Int) ≤ ln M (mR M a 2) → ((skp (txc M a) (txn M a) i = skq (txc M a) (txn M a - j) false j → h_MM_skip_2 G (d + 1) a j M (fun x M' => M' = M ∧ x = (skp (txc M a) (txn M a) i : Int)) ) ∧ ((j : Int) < ln M (mR M a 2) → lt M a j ≠ 10 → skp (txc M a) (txn M a) i = skq (txc M a) (txn M a - j) true j → h_MM_skip_44 G (d + 1) a j M (fun x M' => M' = M ∧ x = (skp (txc M a) (txn M a) i : Int)))) from
    (H _ i rfl (by omega) hin).1 rfl
  intro t
  induction t with
  | zero =>
    intro j hj hij hjT
    refine ⟨fun hX => k_MM_skip_2 hO ⟨by omega, by omega⟩ ?_, fun w => by omega⟩
    rw [el]
    refine ⟨h.1.1, hN, fun _ => ⟨rfl, ?_⟩, fun w => by omega⟩
    rw [hX, show txn M a - j = 0 by unfold txn; omega]; rfl
  | succ t ih =>
    intro j hj hij hjT
    have h44 : (j : Int) < ln M (mR M a 2) → lt M a j ≠ 10 → skp (txc M a) (txn M a) i = skq (txc M a) (txn M a - j) true j → h_MM_skip_44 G (d + 1) a j M (fun x M' => M' = M ∧ x = (skp (txc M a) (txn M a) i : Int)) := fun hjl h10 hX => by
      have nx := ih (j + 1) (by omega) (by omega) (by omega)
      have elj : lt M a j = txc M a j := by unfold lt; rw [if_pos hjl]
      rw [show txn M a - j = (txn M a - (j + 1)) + 1 by unfold txn; omega, skq_rem (Or.inr ⟨rfl, by rw [← elj]; exact h10⟩)] at hX
      refine k_MM_skip_44 hO ⟨by omega, by omega⟩ ?_
      rw [el]
      refine ⟨h.1.1, hN, fun w => by omega, fun _ => (s_MM_letter (by omega) hO h).mono (fun x M1 h1 => ?_)⟩
      obtain ⟨e1, hx⟩ := h1
      subst e1
      refine ⟨by rw [hx]; exact lt_i32 hO, hO, fun w => absurd (hx.symm.trans w) h10, fun _ => ?_⟩
      -- the next letter
      by_cases q : ((j + 1 : Nat) : Int) < ln M1 (mR M1 a 2)
      · by_cases q2 : lt M1 a (j + 1) = 10
        · refine k_MM_skip_44 hO ⟨by omega, by omega⟩ ?_
          rw [el]
          refine ⟨h.1.1, hN, fun w => by omega, fun _ => (s_MM_letter (i := j + 1) (by omega) hO h).mono (fun y M2 h2 => ?_)⟩
          obtain ⟨e2, hy⟩ := h2
          subst e2
          have el2 : lt M2 a (j + 1) = txc M2 a (j + 1) := by unfold lt; rw [if_pos q]
          have hX2 : skp (txc M2 a) (txn M2 a) i = skq (txc M2 a) (txn M2 a - (j + 1)) false (j + 1) := by
            rw [hX, show txn M2 a - (j + 1) = (txn M2 a - (j + 1 + 1)) + 1 by unfold txn; omega, skq_bl (by rw [← el2, q2]; decide) (by rw [← el2, q2]; unfold blq; omega), skq_bl (by rw [← el2, q2]; decide) (by rw [← el2, q2]; unfold blq; omega)]
          exact ⟨by rw [hy]; exact lt_i32 hO, hO, fun _ => nx.1 hX2, fun w => absurd (hy.trans q2) w⟩
        · exact nx.2 q q2 hX
      · refine k_MM_skip_44 hO ⟨by omega, by omega⟩ ?_
        rw [el]
        refine ⟨h.1.1, hN, fun _ => nx.1 ?_, fun w => by omega⟩
        rw [hX, show txn M1 a - (j + 1) = 0 by unfold txn; omega]; rfl
    refine ⟨fun hX => k_MM_skip_2 hO ⟨by omega, by omega⟩ ?_, h44⟩
    rw [el]
    refine ⟨h.1.1, hN, fun _ => ⟨rfl, ?_⟩, fun w => ?_⟩
    · rw [hX, show txn M a - j = 0 by unfold txn; omega]; rfl
    have hjl : (j : Int) < ln M (mR M a 2) := by omega
    have nx := ih (j + 1) (by omega) (by omega) (by omega)
    have elj : lt M a j = txc M a j := by unfold lt; rw [if_pos hjl]
    have ef : txn M a - j = (txn M a - (j + 1)) + 1 := by unfold txn; omega
    have h35 : lt M a j = 35 → skp (txc M a) (txn M a) i = skq (txc M a) (txn M a - j) true j := fun q => by rw [hX, ef, skq_rem (Or.inl (by rw [← elj]; exact q)), skq_rem (Or.inl (by rw [← elj]; exact q))]
    have hbl : blq (lt M a j) → skp (txc M a) (txn M a) i = skq (txc M a) (txn M a - (j + 1)) false (j + 1) := fun q => by
      have n35 : ¬ (txc M a j = 35 ∨ (false = true ∧ txc M a j ≠ 10)) := by rw [← elj]; unfold blq at q; rintro (z | z); omega; cases z.1
      rw [hX, ef, skq_bl n35 (by rw [← elj]; exact q)]
    have hen : ¬ blq (lt M a j) → lt M a j ≠ 35 → skp (txc M a) (txn M a) i = j := fun q q2 => by
      have n35 : ¬ (txc M a j = 35 ∨ (false = true ∧ txc M a j ≠ 10)) := by rw [← elj]; rintro (z | z); exact q2 z; cases z.1
      rw [hX, ef, skq_end n35 (by rw [← elj]; exact q)]
    clear hX
    refine (s_MM_letter (by omega) hO h).mono (fun x M1 h1 => ?_)
    obtain ⟨e1, hx⟩ := h1
    subst e1
    refine ⟨by rw [hx]; exact lt_i32 hO, hO, k_MM_isBlank hO (by rw [hx]; exact lt_i32 hO) (fun v hv => ?_)⟩
    have hv01 : i32 v := ⟨by split at hv <;> omega, by split at hv <;> omega⟩
    have hvb : v ≠ 0 ↔ blq x := by
      rw [hv]
      unfold blq
      split <;> omega
    rw [hx] at hvb
    refine ⟨hv01, hO, fun v0 => ⟨h.1.1, (s_MM_letter (by omega) hO h).mono (fun y M2 h2 => ?_)⟩, fun v0 => ⟨h.1.1, (s_MM_letter (by omega) hO h).mono (fun y M2 h2 => ?_)⟩⟩
    · obtain ⟨e2, hy⟩ := h2
      subst e2
      refine ⟨by rw [hy]; exact lt_i32 hO, hO, fun y35 => ⟨h.1.1, (s_MM_letter (by omega) hO h).mono (fun z M3 h3 => ?_)⟩, fun y35 => ⟨rfl, by rw [hen (fun q => hvb.mpr q v0) (by rw [← hy]; exact y35)]⟩⟩
      obtain ⟨e3, hz⟩ := h3
      subst e3
      exact ⟨by rw [hz]; exact lt_i32 hO, hO, fun z35 => h44 hjl (by rw [← hz, z35]; omega) (h35 (by rw [← hz]; exact z35)), fun z35 => absurd (hz.trans (hy.symm.trans y35)) z35⟩
    · obtain ⟨e2, hy⟩ := h2
      subst e2
      exact ⟨by rw [hy]; exact lt_i32 hO, hO, fun y35 => h44 hjl (by rw [← hy, y35]; omega) (h35 (by rw [← hy]; exact y35)), fun y35 => nx.1 (hbl (hvb.mp v0))⟩

theorem x_MM_signKind {i : Nat} (hi : (i : Int) ≤ 20000) (hO : mOk M) (h : Wd M a) : Ci G y_MM_signKind (d + 2) [vr a, vi i] M (fun x M' => M' = M ∧ x = sgk (lt M a i) (lt M a (i + 1))) := by
  refine k_MM_signKind hO ⟨by omega, by omega⟩ ⟨h.1.1, ?_⟩
  rw [show (i : Int) + 1 = ((i + 1 : Nat) : Int) by omega]
  refine (s_MM_letter (i := i + 1) (by omega) hO h).mono (fun x M1 h1 => ?_)
  obtain ⟨e1, hx⟩ := h1
  subst e1
  refine ⟨by rw [hx]; exact lt_i32 hO, hO, h.1.1, (s_MM_letter (by omega) hO h).mono (fun y M2 h2 => ?_)⟩
  obtain ⟨e2, hy⟩ := h2
  subst e2
  refine ⟨by rw [hy]; exact lt_i32 hO, hO, ?_⟩
  rw [← hx, ← hy]
  exact ⟨fun e v hv => ⟨rfl, by rw [hv, e]; rfl⟩, fun n33 => ⟨fun e => ⟨rfl, by rw [e]; rfl⟩, fun n37 => ⟨fun e => ⟨rfl, by rw [e]; rfl⟩, fun n38 => ⟨fun e => ⟨rfl, by rw [e]; rfl⟩, fun n39 => ⟨fun e => ⟨rfl, by rw [e]; rfl⟩, fun n40 => ⟨fun e => ⟨rfl, by rw [e]; rfl⟩, fun n41 => ⟨fun e => ⟨rfl, by rw [e]; rfl⟩, fun n42 => ⟨fun e => ⟨rfl, by rw [e]; rfl⟩, fun n43 => ⟨fun e => ⟨rfl, by rw [e]; rfl⟩, fun n44 => ⟨fun e v hv => ⟨rfl, by rw [hv, e]; rfl⟩, fun n45 => ⟨fun e v hv => ⟨rfl, by rw [hv, e]; rfl⟩, fun n46 => ⟨fun e => ⟨rfl, by rw [e]; rfl⟩, fun n47 => ⟨fun e => ⟨rfl, by rw [e]; rfl⟩, fun n58 => ⟨fun e => ⟨rfl, by rw [e]; rfl⟩, fun n59 => ⟨fun e v hv => ⟨rfl, by rw [hv, e]; rfl⟩, fun n60 => ⟨fun e => ⟨rfl, by rw [e]; rfl⟩, fun n61 => ⟨fun e v hv => ⟨rfl, by rw [hv, e]; rfl⟩, fun n62 => ⟨fun e => ⟨rfl, by rw [e]; rfl⟩, fun n63 => ⟨fun e => ⟨rfl, by rw [e]; rfl⟩, fun n124 => ⟨rfl, by unfold sgk; rw [if_neg n46, if_neg n45, if_neg n33, if_neg n60, if_neg n62, if_neg n61, if_neg n43, if_neg n42, if_neg n47, if_neg n37, if_neg n38, if_neg n124, if_neg n63, if_neg n58, if_neg n59, if_neg n44, if_neg n40, if_neg n41, if_neg n39]⟩⟩⟩⟩⟩⟩⟩⟩⟩⟩⟩⟩⟩⟩⟩⟩⟩⟩⟩⟩
end LXX
end
section
/-! The reference's words, exactly: cut. -/
section WOX
variable {G : mG} {d a : Nat} {M : mM} {kw : (Nat → Int) → Nat → Nat → Int}
/-- after cutting, exactly -/
def cutX (kw : (Nat → Int) → Nat → Nat → Int) (M : mM) (a : Nat) (M' : mM) : Prop := cutQ M a M' ∧ ∃ N, 1 ≤ N ∧ wds M' a N ∧ rwx kw (txc M a) (txn M a) a N M'
theorem rwI.fin0 {C : Nat → Int} {n c i : Nat} {M5 M6 : mM} (h : rwI kw C n a c i M5) (hi : i = n) (b6 : ∀ j, j < c → nt M6 (a + 5) j = nt M5 (a + 5) j ∧ nt M6 (a + 7) j = nt M5 (a + 7) j ∧ nt M6 (a + 9) j = nt M5 (a + 9) j) (v1 : nt M6 (a + 5) c = 0) (v2 : nt M6 (a + 7) c = n) : rwx kw C n a (c + 1) M6 := by
  refine ⟨fun j hj => ?_, Or.inl ⟨v1, by rw [show c + 1 - 1 = c by omega, ← h.2]; exact hi, v2⟩⟩
  obtain ⟨e1, e2, e3⟩ := b6 j (by omega)
  rw [e1, e2, e3]
  exact h.1 j (by omega)
theorem rwI.fin1 {C : Nat → Int} {n c i : Nat} {M5 M6 : mM} (h : rwI kw C n a c i M5) (hi : i < n) (hw : wkq (kw C) C n i = 39) (b6 : ∀ j, j < c → nt M6 (a + 5) j = nt M5 (a + 5) j ∧ nt M6 (a + 7) j = nt M5 (a + 7) j ∧ nt M6 (a + 9) j = nt M5 (a + 9) j) (v1 : nt M6 (a + 5) c = 39) (v2 : nt M6 (a + 7) c = i) : rwx kw C n a (c + 1) M6 := by
  refine ⟨fun j hj => ?_, Or.inr ⟨v1, by rw [show c + 1 - 1 = c by omega, ← h.2]; exact hi, by rw [show c + 1 - 1 = c by omega, ← h.2]; exact hw, by rw [show c + 1 - 1 = c by omega, ← h.2]; exact v2⟩⟩
  obtain ⟨e1, e2, e3⟩ := b6 j (by omega)
  rw [e1, e2, e3]
  exact h.1 j (by omega)
theorem rwI.step {C : Nat → Int} {n c i e : Nat} {M5 M6 : mM} {k : Int} (h : rwI kw C n a c i M5) (hi : i < n) (hk : k = wkq (kw C) C n i) (h39 : k ≠ 39) (he : e = weq C n i) (b6 : ∀ j, j < c → nt M6 (a + 5) j = nt M5 (a + 5) j ∧ nt M6 (a + 7) j = nt M5 (a + 7) j ∧ nt M6 (a + 9) j = nt M5 (a + 9) j) (v1 : nt M6 (a + 5) c = k) (v2 : nt M6 (a + 7) c = i) (v3 : nt M6 (a + 9) c = e) : rwI kw C n a (c + 1) (skp C n e) M6 := by
  refine ⟨fun j hj => ?_, by rw [he, h.2]; rfl⟩
  by_cases y : j = c
  · rw [y, ← h.2, v1, v2, v3, ← hk, he]
    exact ⟨hi, h39, rfl, rfl, rfl⟩
  · obtain ⟨e1, e2, e3⟩ := b6 j (by omega)
    rw [e1, e2, e3]
    exact h.1 j (by omega)
theorem x_MM_cut (hWK : WKx G kw) (hO : mOk M) (h : Wd M a) (hT : ln M (mR M a 2) ≤ 16384) : Cv G y_MM_cut (d + 6) [vr a] M (cutX kw M a) := by
  have i5 : a + 5 ∈ nums a := nums_o (by decide)
  have i7 : a + 7 ∈ nums a := nums_o (by decide)
  have i9 : a + 9 ∈ nums a := nums_o (by decide)
  have hwl : ∀ (M2 : mM), Wd M2 a → ∀ q, wP a q → q < mZ M2 := fun M2 w q hq => w.lt (wP_in hq)
  have ht0 := h.t0
  refine k_MM_cut hO ?_
  rw [h.1.2.2.1.1]
  refine ⟨h.1.1, (h.nu i5).1, fun M1 e1 => ?_⟩
  obtain ⟨m1, l1, -⟩ := mv_set hO h i5 (v := 0) (by omega) (h.nu i5).2.2.2.1.1 e1
  have w1 := m1.2.1
  rw [w1.1.2.2.1.2.1]
  refine ⟨(w1.nu i7).1, fun M2 e2 => ?_⟩
  obtain ⟨m2, l2, -⟩ := mv_set m1.1 w1 i7 (v := 0) (by omega) (w1.nu i7).2.2.2.1.1 e2
  have w2 := m2.2.1
  rw [w2.1.2.2.1.2.2.1]
  refine ⟨(w2.nu i9).1, fun M3 e3 => ?_⟩
  obtain ⟨m3, l3, -⟩ := mv_set m2.1 w2 i9 (v := 0) (by omega) (w2.nu i9).2.2.2.1.1 e3
  have m03 := ((m1.mono (P' := wP a) (fun q w => Or.inl w) (fun x w => w) (hwl M h)).trans (m2.mono (fun q w => Or.inr (Or.inl w)) (fun x w => w) (hwl M1 w1))).trans (m3.mono (fun q w => Or.inr (Or.inr w)) (fun x w => w) (hwl M2 w2))
  have w3 := m3.2.1
  have t3 := m03.text h
  have c3 : wds M3 a 0 := ⟨by rw [(m3.2.2.2.2 _ i5 (by omega)).1, (m2.2.2.2.2 _ i5 (by omega)).1, l1]; rfl, by rw [(m3.2.2.2.2 _ i7 (by omega)).1, l2]; rfl, by rw [l3]; rfl⟩
  have eC3 : txc M3 a = txc M a := by funext q; unfold txc; rw [t3.1]; exact t3.2.2.1 q
  have eN3 : txn M3 a = txn M a := by unfold txn; rw [t3.1, t3.2.1]
  refine (x_MM_skip (d := d + 3) (i := 0) (by omega) m3.1 w3 (by rw [t3.1, t3.2.1]; exact hT) (by rw [t3.1, t3.2.1]; omega)).mono (fun x M4 h4 => ?_)
  obtain ⟨e4, hx⟩ := h4
  subst e4
  rw [eC3, eN3] at hx
  have hj := (skp_b (c := txc M a) (n := txn M a) (i := 0) (by omega)).2
  have ep : pwq (txc M a) (txn M a) 0 = skp (txc M a) (txn M a) 0 := rfl
  have en0 : ((txn M a : Nat) : Int) = ln M (mR M a 2) := by unfold txn; omega
  generalize skp (txc M a) (txn M a) 0 = j at *
  subst hx
  refine ⟨⟨by omega, by omega⟩, m3.1, ?_⟩
  suffices H : ∀ (t i c : Nat) (M5 : mM), (ln M (mR M a 2)).toNat + 1 - i ≤ t → (i : Int) ≤ ln M (mR M a 2) → c ≤ i → cuI M a c M5 → rwI kw (txc M a) (txn M a) a c i M5 → h_MM_cut_32 G (d + 5) a i 1 M5 (cutX kw M a) from
    H ((ln M (mR M a 2)).toNat + 1) j 0 M4 (by omega) (by omega) (by omega) ⟨m03, c3, fun q hq => by omega⟩ ⟨fun q hq => by omega, ep.symm⟩
  clear hj c3 t3 w3 m03 l3 m3 e3
  intro t
  induction t with
  | zero => intro i c M5 ht hi; omega
  | succ t ih =>
    intro i c M5 ht hi hci h5 hR
    obtain ⟨m5, c5, g5⟩ := h5
    have w5 := m5.2.1
    have t5 := m5.text h
    have o5 := m5.1
    have el : mI M5 (mR M5 a 2) 1 = ln M (mR M a 2) := by rw [t5.1]; exact t5.2.1
    have hT5 : ln M5 (mR M5 a 2) = ln M (mR M a 2) := el
    have hN5 := (w5.nu w5.tape.2.1).1
    have eC5 : txc M5 a = txc M a := by funext q; unfold txc; rw [t5.1]; exact t5.2.2.1 q
    have eN5 : txn M5 a = txn M a := by unfold txn; rw [t5.1, t5.2.1]
    -- a word is put down
    have put : ∀ (k : Int) (e : Nat), 1 ≤ k → k ≤ 39 → i < e → (e : Int) ≤ ln M (mR M a 2) → (k = 2 → e ≤ i + 9 ∧ ∀ j : Nat, i ≤ j → j < e → 48 ≤ nt M (mR M a 2) j ∧ nt M (mR M a 2) j ≤ 57) → (k = 1 → e ≤ i + 40) → k = wkq (kw (txc M a)) (txc M a) (txn M a) i → e = weq (txc M a) (txn M a) i → Cv G y_MM_word0 (d + 5) [vr a, vi k, vi i, vi e] M5 (fun M6 => mOk M6 ∧ ∀ v : Int, v = (if k = 39 then 0 else 1) → mK M6 a = 14 ∧ Ci G y_MM_skip (d + 5) [vr a, vi e] M6 (fun x M7 => i32 x ∧ mOk M7 ∧ h_MM_cut_32 G (d + 5) a x v M7 (cutX kw M a))) := by
      intro k e k1 k2 hie heT hk2 hk1 hwk hwe
      refine (s_MM_word0 (d := d + 4) ⟨by omega, by omega⟩ ⟨by omega, by omega⟩ ⟨by omega, by omega⟩ o5 w5 c5 (by omega)).mono (fun M6 h6 => ?_)
      obtain ⟨m6, c6, b6, v1, v2, v3⟩ := h6
      have m06 := m5.trans m6
      have w6 := m6.2.1
      have t6 := m06.text h
      have t56 := m6.text w5
      have hT6 : ln M6 (mR M6 a 2) = ln M (mR M a 2) := by rw [t6.1]; exact t6.2.1
      have hnew : wok M6 a (nt M6 (a + 5) c) (nt M6 (a + 7) c) (nt M6 (a + 9) c) := by
        rw [v1, v2, v3]
        refine ⟨⟨by omega, k2⟩, ⟨by omega, by omega, by omega⟩, fun _ => by omega, fun w => ⟨by have := (hk2 w).1; omega, fun j a1 a2 => ?_⟩, fun w => by have := hk1 w; omega⟩
        rw [t6.1, t6.2.2.1]
        exact (hk2 w).2 j (by omega) (by omega)
      have hold : wgd M6 a c := fun j hj => by
        have b := b6 j hj
        rw [b.1, b.2.1, b.2.2]
        exact ⟨(g5 j hj).1.same t56.1 t56.2, (g5 j hj).2⟩
      have eC6 : txc M6 a = txc M a := by funext q; unfold txc; rw [t6.1]; exact t6.2.2.1 q
      have eN6 : txn M6 a = txn M a := by unfold txn; rw [t6.1, t6.2.1]
      have hin : i < txn M a := by omega
      refine ⟨m6.1, fun v hv => ⟨w6.1.1, (x_MM_skip (d := d + 3) (i := e) (by omega) m6.1 w6 (by omega) (by omega)).mono (fun x M7 h7 => ?_)⟩⟩
      obtain ⟨e7, hx⟩ := h7
      subst e7
      rw [eC6, eN6] at hx
      have hjb := skp_b (c := txc M a) (n := txn M a) (i := e) (by omega)
      have hS : k ≠ 39 → rwI kw (txc M a) (txn M a) a (c + 1) (skp (txc M a) (txn M a) e) M7 := fun z => hR.step hin hwk z hwe b6 v1 v2 v3
      have hF : k = 39 → rwx kw (txc M a) (txn M a) a (c + 1) M7 := fun z => hR.fin1 hin (hwk.symm.trans z) b6 (v1.trans z) v2
      clear hwk hwe
      generalize skp (txc M a) (txn M a) e = j at *
      obtain ⟨hj1, hj2⟩ := hjb
      subst hx
      refine ⟨⟨by omega, by omega⟩, m6.1, ?_⟩
      by_cases z : k = 39
      · rw [if_pos z] at hv
        subst hv
        refine k_MM_cut_32 m6.1 ⟨by omega, by omega⟩ ⟨by omega, by omega⟩ ⟨fun w => absurd rfl w, fun _ => ⟨fun _ => k_MM_cut_263 m6.1 ⟨⟨m06, c, c6, by omega, hold, hnew, Or.inr (by rw [v1]; exact z)⟩, c + 1, by omega, c6, hF z⟩, fun w => absurd rfl w⟩, fun w => absurd (Or.inl rfl) w⟩
      · rw [if_neg z] at hv
        subst hv
        refine ih j (c + 1) M7 (by omega) (by omega) (by omega) ⟨m06, c6, fun q hq => ?_⟩ (hS z)
        by_cases y : q = c
        · rw [y]
          exact ⟨hnew, by rw [v1]; exact k1, by rw [v1]; exact z⟩
        · exact hold q (by omega)
    refine k_MM_cut_32 o5 ⟨by omega, by omega⟩ ⟨by omega, by omega⟩ ?_
    rw [el]
    refine ⟨fun _ => ⟨w5.1.1, hN5⟩, fun w => ⟨fun w1 => by omega, fun _ => ⟨w5.1.1, hN5, (s_MM_word0 (d := d + 4) (k := 0) ⟨by omega, by omega⟩ ⟨by omega, by omega⟩ ⟨by omega, by omega⟩ o5 w5 c5 (by omega)).mono (fun M6 h6 => ?_)⟩⟩, fun w => ?_⟩
    · obtain ⟨m6, c6, b6, v1, v2, v3⟩ := h6
      have m06 := m5.trans m6
      have t56 := m6.text w5
      have hT6 : ln M6 (mR M6 a 2) = ln M (mR M a 2) := by rw [t56.1, t56.2.1]; exact hT5
      refine ⟨m6.1, k_MM_cut_263 m6.1 ⟨⟨m06, c, c6, by omega, fun j hj => ?_, ?_, Or.inl v1⟩, c + 1, by omega, c6, hR.fin0 (by omega) b6 v1 (by rw [v2]; omega)⟩⟩
      · have b := b6 j hj
        rw [b.1, b.2.1, b.2.2]
        exact ⟨(g5 j hj).1.same t56.1 t56.2, (g5 j hj).2⟩
      · rw [v1, v2, v3]
        exact ⟨⟨by omega, by omega⟩, ⟨by omega, by omega, by omega⟩, fun w => by omega, fun w => by omega, fun w => by omega⟩
    · have hiT : (i : Int) < ln M (mR M a 2) := by omega
      have hin : i < txn M a := by omega
      have eli : lt M a i = txc M a i := by unfold lt; rw [if_pos hiT]
      have hlt : ∀ j, lt M5 a j = lt M a j := fun j => by unfold lt; rw [t5.1, t5.2.1, t5.2.2.1]
      refine ⟨w5.1.1, (s_MM_letter (d := d + 4) (by omega) o5 w5).mono (fun x M6 h6 => ?_)⟩
      obtain ⟨e6, hx⟩ := h6
      subst e6
      refine ⟨by rw [hx]; exact lt_i32 o5, o5, k_MM_isLetter o5 (by rw [hx]; exact lt_i32 o5) (fun v hv => ?_)⟩
      refine ⟨⟨by split at hv <;> omega, by split at hv <;> omega⟩, o5, fun v0 => ⟨w5.1.1, (s_MM_letter (d := d + 4) (by omega) o5 w5).mono (fun y M7 h7 => ?_)⟩, fun v0 => ?_⟩
      · obtain ⟨e7, hy⟩ := h7
        subst e7
        refine ⟨by rw [hy]; exact lt_i32 o5, o5, k_MM_isDigit o5 (by rw [hy]; exact lt_i32 o5) (fun u hu => ?_)⟩
        refine ⟨⟨by split at hu <;> omega, by split at hu <;> omega⟩, o5, fun u0 => ⟨w5.1.1, (x_MM_signKind (d := d + 3) (by omega) o5 w5).mono (fun z M8 h8 => ?_)⟩, fun u0 => ?_⟩
        · obtain ⟨e8, z9⟩ := h8
          subst e8
          rw [hlt, hlt, lt_lq (i + 1) ht0, eli] at z9
          have nl : ¬ isL (txc M a i) := by
            rw [← eli, ← hlt, ← hx]
            unfold isL
            split at hv <;> omega
          have nd : ¬ isDq (txc M a i) := by
            rw [← eli, ← hlt, ← hy]
            unfold isDq
            split at hu <;> omega
          have hwk : z = wkq (kw (txc M a)) (txc M a) (txn M a) i := by rw [wkq_sg nl nd]; exact z9
          have hwe := weq_sg (n := txn M a) nl nd
          rw [← z9] at hwe
          have hwb := (weq_b (c := txc M a) hin).2
          have zb : 16 ≤ z ∧ z ≤ 39 := by
            rw [z9]
            unfold sgk
            (repeat' split) <;> omega
          obtain ⟨z1, z2⟩ := zb
          have z3 : z ≤ 20 → ((i + 1 : Nat) : Int) < ln M (mR M a 2) := fun q => by
            rw [if_pos ⟨z1, q⟩] at hwe
            omega
          clear z9
          refine ⟨⟨by omega, by omega⟩, o5, fun r hr q hq => ⟨w5.1.1, ?_⟩⟩
          have hq12 : q = 1 ∨ q = 2 := by split at hq <;> omega
          have hq2 : q = 2 → z ≤ 20 := fun w => by
            rw [w] at hq
            split at hr <;> split at hq <;> omega
          have ep : (i : Int) + q = ((i + q.toNat : Nat) : Int) := by omega
          rw [ep]
          exact put z (i + q.toNat) (by omega) (by omega) (by omega) (by
            rcases hq12 with w | w
            · omega
            · have := z3 (hq2 w)
              omega) (fun w => by omega) (fun w => by omega) hwk (by
            rw [hwe]
            by_cases y20 : 16 ≤ z ∧ z ≤ 20
            · rw [if_pos y20]
              have : r ≠ 0 := by split at hr <;> omega
              have : q = 2 := by split at hq <;> omega
              omega
            · rw [if_neg y20]
              have : r = 0 := by split at hr <;> omega
              have : q = 1 := by split at hq <;> omega
              omega)
        · -- a number
          have hdig : 48 ≤ lt M a i ∧ lt M a i ≤ 57 := by
            rw [← hlt, ← hy]
            split at hu <;> omega
          have hdq : isDq (txc M a i) := by rw [← eli]; exact hdig
          have hwe := weq_dg (n := txn M a) hdq
          have hwk := wkq_dg (n := txn M a) (k1 := kw (txc M a)) hdq
          suffices H2 : ∀ (r l : Nat), r = (ln M (mR M a 2)).toNat - l → i ≤ l → (l : Int) ≤ ln M (mR M a 2) → (∀ j, i ≤ j → j < l → 48 ≤ nt M (mR M a 2) j ∧ nt M (mR M a 2) j ≤ 57) → enq isDq (txc M a) (txn M a - i) i = enq isDq (txc M a) (txn M a - l) l → h_MM_cut_133 G (d + 5) a i l M7 (cutX kw M a) from H2 _ i rfl (by omega) (by omega) (fun j a1 a2 => by omega) rfl
          intro r
          induction r with
          | zero =>
            intro l hr hl hlT hdg hX
            refine k_MM_cut_133 o5 ⟨by omega, by omega⟩ ⟨by omega, by omega⟩ ⟨w5.1.1, (s_MM_letter (d := d + 4) (by omega) o5 w5).mono (fun s M8 h8 => ?_)⟩
            obtain ⟨e8, hs⟩ := h8
            subst e8
            have ew : weq (txc M a) (txn M a) i = l := by rw [hwe, hX, show txn M a - l = 0 by omega]; rfl
            have hs0 : s = 0 := by rw [hs, hlt]; unfold lt; rw [if_neg (by omega)]
            refine ⟨by rw [hs]; exact lt_i32 o5, o5, k_MM_isDigit o5 (by rw [hs]; exact lt_i32 o5) (fun u' hu' => ?_)⟩
            rw [if_pos (by omega)] at hu'
            refine ⟨⟨by omega, by omega⟩, o5, fun _ => ⟨⟨by omega, by omega⟩, fun k hk => ⟨w5.1.1, put k l (by split at hk <;> omega) (by split at hk <;> omega) (by
              refine Nat.lt_of_le_of_ne hl (fun w => ?_)
              subst w
              unfold lt at hdig
              rw [if_neg (by omega)] at hdig
              omega) (by omega) (fun w => ⟨by split at hk <;> omega, hdg⟩) (fun w => by split at hk <;> omega) (by rw [hwk, ew]; split at hk <;> split <;> omega) ew.symm⟩⟩, fun w => absurd hu' w⟩
          | succ r ihr =>
            intro l hr hl hlT hdg hX
            refine k_MM_cut_133 o5 ⟨by omega, by omega⟩ ⟨by omega, by omega⟩ ⟨w5.1.1, (s_MM_letter (d := d + 4) (by omega) o5 w5).mono (fun s M8 h8 => ?_)⟩
            obtain ⟨e8, hs⟩ := h8
            subst e8
            have hs1 : s = nt M (mR M a 2) l := by rw [hs, hlt]; unfold lt; rw [if_pos (by omega)]
            refine ⟨by rw [hs]; exact lt_i32 o5, o5, k_MM_isDigit o5 (by rw [hs]; exact lt_i32 o5) (fun u' hu' => ?_)⟩
            have efl : txn M a - l = (txn M a - (l + 1)) + 1 := by omega
            have ewn : u' = 0 → weq (txc M a) (txn M a) i = l := fun q => by
              have : ¬ isDq (txc M a l) := by
                unfold isDq
                show ¬ (48 ≤ nt M (mR M a 2) l ∧ nt M (mR M a 2) l ≤ 57)
                rw [← hs1]
                split at hu' <;> omega
              rw [hwe, hX, efl, enq_n this]
            have hXy : u' ≠ 0 → enq isDq (txc M a) (txn M a - i) i = enq isDq (txc M a) (txn M a - (l + 1)) (l + 1) := fun q => by
              have : isDq (txc M a l) := by
                unfold isDq
                show 48 ≤ nt M (mR M a 2) l ∧ nt M (mR M a 2) l ≤ 57
                rw [← hs1]
                split at hu' <;> omega
              rw [hX, efl, enq_y this]
            clear hX efl
            refine ⟨⟨by split at hu' <;> omega, by split at hu' <;> omega⟩, o5, fun u0' => ⟨⟨by omega, by omega⟩, fun k hk => ⟨w5.1.1, put k l (by split at hk <;> omega) (by split at hk <;> omega) (by
              refine Nat.lt_of_le_of_ne hl (fun w => ?_)
              subst w
              have : s = lt M a i := by rw [hs, hlt]
              split at hu' <;> omega) (by omega) (fun w => ⟨by split at hk <;> omega, hdg⟩) (fun w => by split at hk <;> omega) (by rw [hwk, ewn u0']; split at hk <;> split <;> omega) (ewn u0').symm⟩⟩, fun u0' => ?_⟩
            exact ihr (l + 1) (by omega) (by omega) (by omega) (fun j a1 a2 => by
              by_cases z : j = l
              · rw [z, ← hs1]
                split at hu' <;> omega
              · exact hdg j a1 (by omega)) (hXy u0')
      · -- a name
        have hlet : isL (lt M a i) := by
          rw [← hlt, ← hx]
          unfold isL
          split at hv <;> omega
        have hlq : isL (txc M a i) := by rw [← eli]; exact hlet
        have hwe := weq_lt (n := txn M a) hlq
        have hwk := wkq_lt (n := txn M a) (k1 := kw (txc M a)) hlq
        suffices H2 : ∀ (r l : Nat), r = (ln M (mR M a 2)).toNat - l → i ≤ l → (l : Int) ≤ ln M (mR M a 2) → enq nmq (txc M a) (txn M a - i) i = enq nmq (txc M a) (txn M a - l) l → h_MM_cut_60 G (d + 5) a i l M6 (cutX kw M a) from H2 _ i rfl (by omega) (by omega) rfl
        have h117 : ∀ (k : Int) (l : Nat), 1 ≤ k → k ≤ 39 → i < l → (l : Int) ≤ ln M (mR M a 2) → k ≠ 2 → (k = 1 → l ≤ i + 40) → k = wkq (kw (txc M a)) (txc M a) (txn M a) i → l = weq (txc M a) (txn M a) i → h_MM_cut_117 G (d + 5) a i l k M6 (cutX kw M a) := fun k l k1 k2 hl hlT hk2 hk1 hw1 hw2 =>
          k_MM_cut_117 o5 ⟨by omega, by omega⟩ ⟨by omega, by omega⟩ ⟨by omega, by omega⟩ ⟨w5.1.1, put k l k1 k2 hl hlT (fun w => absurd w hk2) hk1 hw1 hw2⟩
        have hfin : ∀ l : Nat, i ≤ l → (l : Int) ≤ ln M (mR M a 2) → (¬ isL (lt M a l)) → weq (txc M a) (txn M a) i = l → (i32 ((l : Int) - i) ∧ (((l : Int) - i ≤ 40) → (mK M6 a = 14 ∧ Ci G y_MM_wordKind (d + 5) [vr a, vi i, vi l] M6 (fun x M' => i32 x ∧ mOk M' ∧ h_MM_cut_117 G (d + 5) a i l x M' (cutX kw M a)))) ∧ (¬ ((l : Int) - i ≤ 40) → h_MM_cut_117 G (d + 5) a i l 39 M6 (cutX kw M a))) := fun l hl hlT hnl ew => by
          have hil : i < l := Nat.lt_of_le_of_ne hl (fun w => by subst w; exact hnl hlet)
          refine ⟨⟨by omega, by omega⟩, fun w => ⟨w5.1.1, (hWK d a i l M6 o5 w5 hil (by omega) (by omega) (by omega)).mono (fun k M7 h7 => ?_)⟩, fun w => h117 39 l (by omega) (by omega) hil hlT (by omega) (fun w => by omega) (by rw [hwk, ew, if_pos (by omega)]) ew.symm⟩
          obtain ⟨e7, ⟨k1, k2, k3⟩, k4⟩ := h7
          subst e7
          rw [eC5] at k4
          exact ⟨⟨by omega, by omega⟩, o5, h117 k l k1 (by omega) hil hlT k3 (fun _ => by omega) (by rw [hwk, ew, if_neg (by omega)]; exact k4) ew.symm⟩
        intro r
        induction r with
        | zero =>
          intro l hr hl hlT hX
          have ew : weq (txc M a) (txn M a) i = l := by rw [hwe, hX, show txn M a - l = 0 by omega]; rfl
          have hl0 : lt M a l = 0 := by unfold lt; rw [if_neg (by omega)]
          refine k_MM_cut_60 o5 ⟨by omega, by omega⟩ ⟨by omega, by omega⟩ ⟨w5.1.1, (s_MM_letter (d := d + 4) (by omega) o5 w5).mono (fun s M7 h7 => ?_)⟩
          obtain ⟨e7, hs⟩ := h7
          subst e7
          rw [hlt, hl0] at hs
          refine ⟨⟨by omega, by omega⟩, o5, k_MM_isLetter o5 ⟨by omega, by omega⟩ (fun u hu => ?_)⟩
          rw [if_pos (by omega)] at hu
          refine ⟨⟨by omega, by omega⟩, o5, fun _ => ⟨w5.1.1, (s_MM_letter (d := d + 4) (by omega) o5 w5).mono (fun s' M8 h8 => ?_)⟩, fun w => absurd hu w⟩
          obtain ⟨e8, hs'⟩ := h8
          subst e8
          rw [hlt, hl0] at hs'
          refine ⟨⟨by omega, by omega⟩, o5, k_MM_isDigit o5 ⟨by omega, by omega⟩ (fun u' hu' => ?_)⟩
          rw [if_pos (by omega)] at hu'
          refine ⟨⟨by omega, by omega⟩, o5, fun _ => ⟨w5.1.1, (s_MM_letter (d := d + 4) (by omega) o5 w5).mono (fun s'' M9 h9 => ?_)⟩, fun w => absurd hu' w⟩
          obtain ⟨e9, hs''⟩ := h9
          subst e9
          rw [hlt, hl0] at hs''
          exact ⟨⟨by omega, by omega⟩, o5, fun w => by omega, fun _ => hfin l hl hlT (by rw [hl0]; unfold isL; omega) ew⟩
        | succ r ihr =>
          intro l hr hl hlT hX
          have ell : lt M a l = txc M a l := by unfold lt; rw [if_pos (by omega)]
          rw [show txn M a - l = (txn M a - (l + 1)) + 1 by omega] at hX
          have nx : nmq (lt M a l) → h_MM_cut_60 G (d + 5) a i ((l + 1 : Nat) : Int) M6 (cutX kw M a) := fun q => ihr (l + 1) (by omega) (by omega) (by omega) (by rw [hX]; exact enq_y (P := nmq) (by rw [← ell]; exact q))
          have ewn : ¬ nmq (lt M a l) → weq (txc M a) (txn M a) i = l := fun q => by rw [hwe, hX, enq_n (by rw [← ell]; exact q)]
          clear hX
          refine k_MM_cut_60 o5 ⟨by omega, by omega⟩ ⟨by omega, by omega⟩ ⟨w5.1.1, (s_MM_letter (d := d + 4) (by omega) o5 w5).mono (fun s M7 h7 => ?_)⟩
          obtain ⟨e7, hs⟩ := h7
          subst e7
          refine ⟨by rw [hs]; exact lt_i32 o5, o5, k_MM_isLetter o5 (by rw [hs]; exact lt_i32 o5) (fun u hu => ?_)⟩
          have hnl : u = 0 → ¬ isL (lt M a l) := fun w => by
            rw [← hlt, ← hs]
            unfold isL
            split at hu <;> omega
          have hyl : u ≠ 0 → isL (lt M a l) := fun w => by
            rw [← hlt, ← hs]
            unfold isL
            split at hu <;> omega
          refine ⟨⟨by split at hu <;> omega, by split at hu <;> omega⟩, o5, fun u0 => ⟨w5.1.1, (s_MM_letter (d := d + 4) (by omega) o5 w5).mono (fun s' M8 h8 => ?_)⟩, fun u0 => nx (Or.inl (hyl u0))⟩
          obtain ⟨e8, hs'⟩ := h8
          subst e8
          refine ⟨by rw [hs']; exact lt_i32 o5, o5, k_MM_isDigit o5 (by rw [hs']; exact lt_i32 o5) (fun u' hu' => ?_)⟩
          have hdl : u' ≠ 0 ↔ isDq (lt M a l) := by
            rw [← hlt, ← hs', hu']
            unfold isDq
            split <;> omega
          refine ⟨⟨by split at hu' <;> omega, by split at hu' <;> omega⟩, o5, fun u0' => ⟨w5.1.1, (s_MM_letter (d := d + 4) (by omega) o5 w5).mono (fun s'' M9 h9 => ?_)⟩, fun u0' => nx (Or.inr (Or.inl (hdl.mp u0')))⟩
          obtain ⟨e9, hs''⟩ := h9
          subst e9
          rw [hlt] at hs''
          refine ⟨by rw [hs'', ← hlt]; exact lt_i32 o5, o5, fun q => nx (Or.inr (Or.inr (by rw [← hs'']; exact q))), fun q => hfin l hl hlT (hnl u0) (ewn (fun z => ?_))⟩
          rcases z with z | z | z
          · exact hnl u0 z
          · exact hdl.mpr z u0'
          · exact q (by rw [hs'']; exact z)
end WOX
end
section
/-! Class and reference have the same words. -/
section SAM
variable {kw : (Nat → Int) → Nat → Nat → Int} {c : Nat → Int} {N A B D n a Nw : Nat} {M M' : mM}
/-- the words as the machine reads them: n of them, then the end -/
noncomputable def cwq (kw : (Nat → Int) → Nat → Nat → Int) (c : Nat → Int) (N n : Nat) : Nat → Int := fun i => if i < n then wkq (kw c) c N (pwq c N i) else 0
theorem wd_cnt (h : spx kw c N M A B D n) (h' : rwx kw c N a Nw M') (hN : 1 ≤ Nw) : (n + 1 = Nw ∧ nt M' (a + 5) (Nw - 1) = 0 ∧ nt M' (a + 7) (Nw - 1) = N) ∨ (n = Nw ∧ nt M' (a + 5) (Nw - 1) = 39 ∧ wkq (kw c) c N (pwq c N (Nw - 1)) = 39 ∧ nt M' (a + 7) (Nw - 1) = pwq c N (Nw - 1)) := by
  obtain ⟨s1, s2, s3⟩ := h
  obtain ⟨r1, r2⟩ := h'
  rcases s3 with ⟨s3, s4⟩ | ⟨s3, s4⟩ <;> rcases r2 with ⟨r2, r3, r4⟩ | ⟨r2, r3, r4, r5⟩
  · left
    refine ⟨?_, r2, r4⟩
    by_cases y : n + 1 < Nw
    · have := (r1 n y).1; omega
    · by_cases y2 : Nw - 1 < n
      · have := (s1 (Nw - 1) y2).1; omega
      · omega
  · exfalso
    by_cases y : n + 1 < Nw
    · have := (r1 n y).1; omega
    · by_cases y2 : Nw - 1 < n
      · exact s4 (Nw - 1) y2 r4
      · have e : n = Nw - 1 := by omega
        rw [← e] at r3
        omega
  · exfalso
    by_cases y : n - 1 + 1 < Nw
    · exact (r1 (n - 1) y).2.1 s4
    · have := (s1 (Nw - 1) (by omega)).1
      omega
  · right
    refine ⟨?_, r2, r4, r5⟩
    by_cases y : n - 1 + 1 < Nw
    · exact absurd s4 (r1 (n - 1) y).2.1
    · by_cases y2 : Nw - 1 + 1 < n
      · exact absurd r4 (s2 (Nw - 1) y2)
      · omega
/-- word for word -/
theorem wd_same (h : spx kw c N M A B D n) (h' : rwx kw c N a Nw M') (hN : 1 ≤ Nw) : ∀ j, j < Nw → cwq kw c N n j = nt M' (a + 5) j := by
  intro j hj
  unfold cwq
  rcases wd_cnt h h' hN with ⟨e, e2, -⟩ | ⟨e, e2, e3, -⟩
  · by_cases y : j < n
    · rw [if_pos y, (h'.1 j (by omega)).2.2.1]
    · rw [if_neg y, show j = Nw - 1 by omega, e2]
  · rw [if_pos (by omega)]
    by_cases y : j + 1 < Nw
    · rw [(h'.1 j y).2.2.1]
    · rw [show j = Nw - 1 by omega, e2, e3]
/-- sorts -/
theorem wd_sort (h : spx kw c N M A B D n) (hA : mI M A n = 0) : ∀ j, j ≤ n → mI M A j = csq (cwq kw c N n j) := by
  intro j hj
  unfold cwq
  by_cases y : j < n
  · rw [if_pos y]; exact (h.1 j y).2.1
  · rw [if_neg y, show j = n by omega, hA]; decide
end SAM
end
