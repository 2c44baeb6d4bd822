section
section
/-! The reference's words, exactly. -/
/-- the text's characters, and how many -/
abbrev txc (M : mM) (a : Nat) : Nat → Int := nt M (mR M a 2)
def txn (M : mM) (a : Nat) : Nat := (ln M (mR M a 2)).toNat
/-- what wordKind answers -/
def WKx (G : mG) (kw : (Nat → Int) → Nat → Nat → Int) : Prop := ∀ (d a f e : Nat) (M : mM), mOk M → Wd M a → f < e → (e : Int) ≤ ln M (mR M a 2) → e ≤ f + 40 → ln M (mR M a 2) ≤ 16384 → Ci G y_MM_wordKind (d + 5) [vr a, vi f, vi e] M (fun x M' => M' = M ∧ (1 ≤ x ∧ x ≤ 15 ∧ x ≠ 2) ∧ x = kw (txc M a) f e)
/-- c words have been cut, at place i -/
def rwI (kw : (Nat → Int) → Nat → Nat → Int) (C : Nat → Int) (n : Nat) (a c i : Nat) (M5 : mM) : Prop := (∀ j, j < c → pwq C n j < n ∧ wkq (kw C) C n (pwq C n j) ≠ 39 ∧ nt M5 (a + 5) j = wkq (kw C) C n (pwq C n j) ∧ nt M5 (a + 7) j = pwq C n j ∧ nt M5 (a + 9) j = weq C n (pwq C n j)) ∧ i = pwq C n c
/-- the reference's words: N of them, the last the end or a wrong one -/
def rwx (kw : (Nat → Int) → Nat → Nat → Int) (C : Nat → Int) (n : Nat) (a N : Nat) (M5 : mM) : Prop := (∀ j, j + 1 < N → pwq C n j < n ∧ wkq (kw C) C n (pwq C n j) ≠ 39 ∧ nt M5 (a + 5) j = wkq (kw C) C n (pwq C n j) ∧ nt M5 (a + 7) j = pwq C n j ∧ nt M5 (a + 9) j = weq C n (pwq C n j)) ∧ ((nt M5 (a + 5) (N - 1) = 0 ∧ pwq C n (N - 1) = n ∧ nt M5 (a + 7) (N - 1) = n) ∨ (nt M5 (a + 5) (N - 1) = 39 ∧ pwq C n (N - 1) < n ∧ wkq (kw C) C n (pwq C n (N - 1)) = 39 ∧ nt M5 (a + 7) (N - 1) = pwq C n (N - 1)))
section LXX
variable {G : mG} {d a : Nat} {M : mM} {kw : (Nat → Int) → Nat → Nat → Int}
theorem lt_lq (i : Nat) (h : 0 ≤ ln M (mR M a 2)) : lt M a i = lq (txc M a) (txn M a) i := by
  unfold lt lq txn
  by_cases y : (i : Int) < ln M (mR M a 2)
  · rw [if_pos y, if_pos (by omega)]
  · rw [if_neg y, if_neg (by omega)]
theorem x_MM_skip {i : Nat} (hi : (i : Int) ≤ 20000) (hO : mOk M) (h : Wd M a) (hT : ln M (mR M a 2) ≤ 16384) (hin : (i : Int) ≤ ln M (mR M a 2)) : Ci G y_MM_skip (d + 2) [vr a, vi i] M (fun x M' => M' = M ∧ x = (skp (txc M a) (txn M a) i : Int)) := by
  have hp := h.tape.2.1
  have hN := (h.nu hp).1
  have ht0 := h.t0
  have el : mI M (mR M a 2) 1 = ln M (mR M a 2) := rfl
  refine k_MM_skip hO ⟨by omega, by omega⟩ ?_
  suffices H : ∀ (t j : Nat), t = (ln M (mR M a 2)).toNat + 2 - j → i ≤ j → (j : Int) ≤ ln M (mR M a 2) → ((skp (txc M a) (txn M a) i = skq (txc M a) (txn M a - j) false j → h_MM_skip_2 G (d + 1) a j M (fun x M' => M' = M ∧ x = (skp (txc M a) (txn M a) i : Int)) ) ∧ ((j : Int) < ln M (mR M a 2) → lt M a j ≠ 10 → skp (txc M a) (txn M a) i = skq (txc M a) (txn M a - j) true j → h_MM_skip_44 G (d + 1) a j M (fun x M' => M' = M ∧ x = (skp (txc M a) (txn M a) i : Int)))) from
    (H _ i rfl (by omega) hin).1 rfl
  intro t
  induction t with
  | zero =>
    intro j hj hij hjT
    refine ⟨fun hX => k_MM_skip_2 hO ⟨by omega, by omega⟩ ?_, fun w => by omega⟩
    rw [el]
    refine ⟨h.1.1, hN, fun _ => ⟨rfl, ?_⟩, fun w => by omega⟩
    rw [hX, show txn M a - j = 0 by unfold txn; omega]; rfl
  | succ t ih =>
    intro j hj hij hjT
    have h44 : (j : Int) < ln M (mR M a 2) → lt M a j ≠ 10 → skp (txc M a) (txn M a) i = skq (txc M a) (txn M a - j) true j → h_MM_skip_44 G (d + 1) a j M (fun x M' => M' = M ∧ x = (skp (txc M a) (txn M a) i : Int)) := fun hjl h10 hX => by
      have nx := ih (j + 1) (by omega) (by omega) (by omega)
      have elj : lt M a j = txc M a j := by unfold lt; rw [if_pos hjl]
      rw [show txn M a - j = (txn M a - (j + 1)) + 1 by unfold txn; omega, skq_rem (Or.inr ⟨rfl, by rw [← elj]; exact h10⟩)] at hX
      refine k_MM_skip_44 hO ⟨by omega, by omega⟩ ?_
      rw [el]
      refine ⟨h.1.1, hN, fun w => by omega, fun _ => (s_MM_letter (by omega) hO h).mono (fun x M1 h1 => ?_)⟩
      obtain ⟨e1, hx⟩ := h1
      subst e1
      refine ⟨by rw [hx]; exact lt_i32 hO, hO, fun w => absurd (hx.symm.trans w) h10, fun _ => ?_⟩
      -- the next letter
      by_cases q : ((j + 1 : Nat) : Int) < ln M1 (mR M1 a 2)
      · by_cases q2 : lt M1 a (j + 1) = 10
        · refine k_MM_skip_44 hO ⟨by omega, by omega⟩ ?_
          rw [el]
          refine ⟨h.1.1, hN, fun w => by omega, fun _ => (s_MM_letter (i := j + 1) (by omega) hO h).mono (fun y M2 h2 => ?_)⟩
          obtain ⟨e2, hy⟩ := h2
          subst e2
          have el2 : lt M2 a (j + 1) = txc M2 a (j + 1) := by unfold lt; rw [if_pos q]
          have hX2 : skp (txc M2 a) (txn M2 a) i = skq (txc M2 a) (txn M2 a - (j + 1)) false (j + 1) := by
            rw [hX, show txn M2 a - (j + 1) = (txn M2 a - (j + 1 + 1)) + 1 by unfold txn; omega, skq_bl (by rw [← el2, q2]; decide) (by rw [← el2, q2]; unfold blq; omega), skq_bl (by rw [← el2, q2]; decide) (by rw [← el2, q2]; unfold blq; omega)]
          exact ⟨by rw [hy]; exact lt_i32 hO, hO, fun _ => nx.1 hX2, fun w => absurd (hy.trans q2) w⟩
        · exact nx.2 q q2 hX
      · refine k_MM_skip_44 hO ⟨by omega, by omega⟩ ?_
        rw [el]
        refine ⟨h.1.1, hN, fun _ => nx.1 ?_, fun w => by omega⟩
        rw [hX, show txn M1 a - (j + 1) = 0 by unfold txn; omega]; rfl
    refine ⟨fun hX => k_MM_skip_2 hO ⟨by omega, by omega⟩ ?_, h44⟩
    rw [el]
    refine ⟨h.1.1, hN, fun _ => ⟨rfl, ?_⟩, fun w => ?_⟩
    · rw [hX, show txn M a - j = 0 by unfold txn; omega]; rfl
    have hjl : (j : Int) < ln M (mR M a 2) := by omega
    have nx := ih (j + 1) (by omega) (by omega) (by omega)
    have elj : lt M a j = txc M a j := by unfold lt; rw [if_pos hjl]
    have ef : txn M a - j = (txn M a - (j + 1)) + 1 := by unfold txn; omega
    have h35 : lt M a j = 35 → skp (txc M a) (txn M a) i = skq (txc M a) (txn M a - j) true j := fun q => by rw [hX, ef, skq_rem (Or.inl (by rw [← elj]; exact q)), skq_rem (Or.inl (by rw [← elj]; exact q))]
    have hbl : blq (lt M a j) → skp (txc M a) (txn M a) i = skq (txc M a) (txn M a - (j + 1)) false (j + 1) := fun q => by
      have n35 : ¬ (txc M a j = 35 ∨ (false = true ∧ txc M a j ≠ 10)) := by rw [← elj]; unfold blq at q; rintro (z | z); omega; cases z.1
      rw [hX, ef, skq_bl n35 (by rw [← elj]; exact q)]
    have hen : ¬ blq (lt M a j) → lt M a j ≠ 35 → skp (txc M a) (txn M a) i = j := fun q q2 => by
      have n35 : ¬ (txc M a j = 35 ∨ (false = true ∧ txc M a j ≠ 10)) := by rw [← elj]; rintro (z | z); exact q2 z; cases z.1
      rw [hX, ef, skq_end n35 (by rw [← elj]; exact q)]
    clear hX
    refine (s_MM_letter (by omega) hO h).mono (fun x M1 h1 => ?_)
    obtain ⟨e1, hx⟩ := h1
    subst e1
    refine ⟨by rw [hx]; exact lt_i32 hO, hO, k_MM_isBlank hO (by rw [hx]; exact lt_i32 hO) (fun v hv => ?_)⟩
    have hv01 : i32 v := ⟨by split at hv <;> omega, by split at hv <;> omega⟩
    have hvb : v ≠ 0 ↔ blq x := by
      rw [hv]
      unfold blq
      split <;> omega
    rw [hx] at hvb
    refine ⟨hv01, hO, fun v0 => ⟨h.1.1, (s_MM_letter (by omega) hO h).mono (fun y M2 h2 => ?_)⟩, fun v0 => ⟨h.1.1, (s_MM_letter (by omega) hO h).mono (fun y M2 h2 => ?_)⟩⟩
    · obtain ⟨e2, hy⟩ := h2
      subst e2
      refine ⟨by rw [hy]; exact lt_i32 hO, hO, fun y35 => ⟨h.1.1, (s_MM_letter (by omega) hO h).mono (fun z M3 h3 => ?_)⟩, fun y35 => ⟨rfl, by rw [hen (fun q => hvb.mpr q v0) (by rw [← hy]; exact y35)]⟩⟩
      obtain ⟨e3, hz⟩ := h3
      subst e3
      exact ⟨by rw [hz]; exact lt_i32 hO, hO, fun z35 => h44 hjl (by rw [← hz, z35]; omega) (h35 (by rw [← hz]; exact z35)), fun z35 => absurd (hz.trans (hy.symm.trans y35)) z35⟩
    · obtain ⟨e2, hy⟩ := h2
      subst e2
      exact ⟨by rw [hy]; exact lt_i32 hO, hO, fun y35 => h44 hjl (by rw [← hy, y35]; omega) (h35 (by rw [← hy]; exact y35)), fun y35 => nx.1 (hbl (hvb.mp v0))⟩

theorem x_MM_signKind {i : Nat} (hi : (i : Int) ≤ 20000) (hO : mOk M) (h : Wd M a) : Ci G y_MM_signKind (d + 2) [vr a, vi i] M (fun x M' => M' = M ∧ x = sgk (lt M a i) (lt M a (i + 1))) := by
  refine k_MM_signKind hO ⟨by omega, by omega⟩ ⟨h.1.1, ?_⟩
  rw [show (i : Int) + 1 = ((i + 1 : Nat) : Int) by first | rfl | omega]
  refine (s_MM_letter (i := i + 1) (by omega) hO h).mono (fun x M1 h1 => ?_)
  obtain ⟨e1, hx⟩ := h1
  subst e1
  refine ⟨by rw [hx]; exact lt_i32 hO, hO, h.1.1, (s_MM_letter (by omega) hO h).mono (fun y M2 h2 => ?_)⟩
  obtain ⟨e2, hy⟩ := h2
  subst e2
  refine ⟨by rw [hy]; exact lt_i32 hO, hO, ?_⟩
  rw [← hx, ← hy]
  exact ⟨fun e v hv => ⟨rfl, by rw [hv, e]; rfl⟩, fun n33 => ⟨fun e => ⟨rfl, by rw [e]; rfl⟩, fun n37 => ⟨fun e => ⟨rfl, by rw [e]; rfl⟩, fun n38 => ⟨fun e => ⟨rfl, by rw [e]; rfl⟩, fun n39 => ⟨fun e => ⟨rfl, by rw [e]; rfl⟩, fun n40 => ⟨fun e => ⟨rfl, by rw [e]; rfl⟩, fun n41 => ⟨fun e => ⟨rfl, by rw [e]; rfl⟩, fun n42 => ⟨fun e => ⟨rfl, by rw [e]; rfl⟩, fun n43 => ⟨fun e => ⟨rfl, by rw [e]; rfl⟩, fun n44 => ⟨fun e v hv => ⟨rfl, by rw [hv, e]; rfl⟩, fun n45 => ⟨fun e v hv => ⟨rfl, by rw [hv, e]; rfl⟩, fun n46 => ⟨fun e => ⟨rfl, by rw [e]; rfl⟩, fun n47 => ⟨fun e => ⟨rfl, by rw [e]; rfl⟩, fun n58 => ⟨fun e => ⟨rfl, by rw [e]; rfl⟩, fun n59 => ⟨fun e v hv => ⟨rfl, by rw [hv, e]; rfl⟩, fun n60 => ⟨fun e => ⟨rfl, by rw [e]; rfl⟩, fun n61 => ⟨fun e v hv => ⟨rfl, by rw [hv, e]; rfl⟩, fun n62 => ⟨fun e => ⟨rfl, by rw [e]; rfl⟩, fun n63 => ⟨fun e => ⟨rfl, by rw [e]; rfl⟩, fun n124 => ⟨rfl, by unfold sgk; rw [if_neg n46, if_neg n45, if_neg n33, if_neg n60, if_neg n62, if_neg n61, if_neg n43, if_neg n42, if_neg n47, if_neg n37, if_neg n38, if_neg n124, if_neg n63, if_neg n58, if_neg n59, if_neg n44, if_neg n40, if_neg n41, if_neg n39]⟩⟩⟩⟩⟩⟩⟩⟩⟩⟩⟩⟩⟩⟩⟩⟩⟩⟩⟩⟩
end LXX
end
section
/-! The reference's words, exactly: cut. -/
section WOX
variable {G : mG} {d a : Nat} {M : mM} {kw : (Nat → Int) → Nat → Nat → Int}
/-- after cutting, exactly -/
def cutX (kw : (Nat → Int) → Nat → Nat → Int) (M : mM) (a : Nat) (M' : mM) : Prop := cutQ M a M' ∧ ∃ N, 1 ≤ N ∧ wds M' a N ∧ rwx kw (txc M a) (txn M a) a N M'
theorem rwI.fin0 {C : Nat → Int} {n c i : Nat} {M5 M6 : mM} (h : rwI kw C n a c i M5) (hi : i = n) (b6 : ∀ j, j < c → nt M6 (a + 5) j = nt M5 (a + 5) j ∧ nt M6 (a + 7) j = nt M5 (a + 7) j ∧ nt M6 (a + 9) j = nt M5 (a + 9) j) (v1 : nt M6 (a + 5) c = 0) (v2 : nt M6 (a + 7) c = n) : rwx kw C n a (c + 1) M6 := by
  refine ⟨fun j hj => ?_, Or.inl ⟨v1, by rw [show c + 1 - 1 = c by first | rfl | omega, ← h.2]; exact hi, v2⟩⟩
  obtain ⟨e1, e2, e3⟩ := b6 j (by omega)
  rw [e1, e2, e3]
  exact h.1 j (by omega)
theorem rwI.fin1 {C : Nat → Int} {n c i : Nat} {M5 M6 : mM} (h : rwI kw C n a c i M5) (hi : i < n) (hw : wkq (kw C) C n i = 39) (b6 : ∀ j, j < c → nt M6 (a + 5) j = nt M5 (a + 5) j ∧ nt M6 (a + 7) j = nt M5 (a + 7) j ∧ nt M6 (a + 9) j = nt M5 (a + 9) j) (v1 : nt M6 (a + 5) c = 39) (v2 : nt M6 (a + 7) c = i) : rwx kw C n a (c + 1) M6 := by
  refine ⟨fun j hj => ?_, Or.inr ⟨v1, by rw [show c + 1 - 1 = c by first | rfl | omega, ← h.2]; exact hi, by rw [show c + 1 - 1 = c by first | rfl | omega, ← h.2]; exact hw, by rw [show c + 1 - 1 = c by first | rfl | omega, ← h.2]; exact v2⟩⟩
  obtain ⟨e1, e2, e3⟩ := b6 j (by omega)
  rw [e1, e2, e3]
  exact h.1 j (by omega)
theorem rwI.step {C : Nat → Int} {n c i e : Nat} {M5 M6 : mM} {k : Int} (h : rwI kw C n a c i M5) (hi : i < n) (hk : k = wkq (kw C) C n i) (h39 : k ≠ 39) (he : e = weq C n i) (b6 : ∀ j, j < c → nt M6 (a + 5) j = nt M5 (a + 5) j ∧ nt M6 (a + 7) j = nt M5 (a + 7) j ∧ nt M6 (a + 9) j = nt M5 (a + 9) j) (v1 : nt M6 (a + 5) c = k) (v2 : nt M6 (a + 7) c = i) (v3 : nt M6 (a + 9) c = e) : rwI kw C n a (c + 1) (skp C n e) M6 := by
  refine ⟨fun j hj => ?_, by rw [he, h.2]; rfl⟩
  by_cases y : j = c
  · rw [y, ← h.2, v1, v2, v3, ← hk, he]
    exact ⟨hi, h39, rfl, rfl, rfl⟩
  · obtain ⟨e1, e2, e3⟩ := b6 j (by omega)
    rw [e1, e2, e3]
    exact h.1 j (by omega)
theorem ite_s9 {P : Int → Prop} {q : Prop} [Decidable q] {x y : Int} (h1 : P x) (h2 : P y) : P (if q then x else y) := by
  split
  · exact h1
  · exact h2
theorem sgk_b (x y : Int) : 16 ≤ sgk x y ∧ sgk x y ≤ 39 := by
  unfold sgk
  repeat' (first | decide | refine ite_s9 (P := fun v : Int => 16 ≤ v ∧ v ≤ 39) ?_ ?_)
theorem x_MM_cut (hWK : WKx G kw) (hO : mOk M) (h : Wd M a) (hT : ln M (mR M a 2) ≤ 16384) : Cv G y_MM_cut (d + 6) [vr a] M (cutX kw M a) := by
  have i5 : a + 5 ∈ nums a := nums_o (by decide)
  have i7 : a + 7 ∈ nums a := nums_o (by decide)
  have i9 : a + 9 ∈ nums a := nums_o (by decide)
  have hwl : ∀ (M2 : mM), Wd M2 a → ∀ q, wP a q → q < mZ M2 := fun M2 w q hq => w.lt (wP_in hq)
  have ht0 := h.t0
  refine k_MM_cut hO ?_
  rw [h.1.2.2.1.1]
  refine ⟨h.1.1, (h.nu i5).1, fun M1 e1 => ?_⟩
  obtain ⟨m1, l1, -⟩ := mv_set hO h i5 (v := 0) (by omega) (h.nu i5).2.2.2.1.1 e1
  have w1 := m1.2.1
  rw [w1.1.2.2.1.2.1]
  refine ⟨(w1.nu i7).1, fun M2 e2 => ?_⟩
  obtain ⟨m2, l2, -⟩ := mv_set m1.1 w1 i7 (v := 0) (by omega) (w1.nu i7).2.2.2.1.1 e2
  have w2 := m2.2.1
  rw [w2.1.2.2.1.2.2.1]
  refine ⟨(w2.nu i9).1, fun M3 e3 => ?_⟩
  obtain ⟨m3, l3, -⟩ := mv_set m2.1 w2 i9 (v := 0) (by omega) (w2.nu i9).2.2.2.1.1 e3
  have m03 := ((m1.mono (P' := wP a) (fun q w => Or.inl w) (fun x w => w) (hwl M h)).trans (m2.mono (fun q w => Or.inr (Or.inl w)) (fun x w => w) (hwl M1 w1))).trans (m3.mono (fun q w => Or.inr (Or.inr w)) (fun x w => w) (hwl M2 w2))
  have w3 := m3.2.1
  have t3 := m03.text h
  have c3 : wds M3 a 0 := ⟨by rw [(m3.2.2.2.2 _ i5 (by omega)).1, (m2.2.2.2.2 _ i5 (by omega)).1, l1]; rfl, by rw [(m3.2.2.2.2 _ i7 (by omega)).1, l2]; rfl, by rw [l3]; rfl⟩
  have eC3 : txc M3 a = txc M a := by funext q; unfold txc; rw [t3.1]; exact t3.2.2.1 q
  have eN3 : txn M3 a = txn M a := by unfold txn; rw [t3.1, t3.2.1]
  refine (x_MM_skip (d := d + 3) (i := 0) (by omega) m3.1 w3 (by rw [t3.1, t3.2.1]; exact hT) (by rw [t3.1, t3.2.1]; omega)).mono (fun x M4 h4 => ?_)
  obtain ⟨e4, hx⟩ := h4
  subst e4
  rw [eC3, eN3] at hx
  have hj := (skp_b (c := txc M a) (n := txn M a) (i := 0) (by omega)).2
  have ep : pwq (txc M a) (txn M a) 0 = skp (txc M a) (txn M a) 0 := rfl
  have en0 : ((txn M a : Nat) : Int) = ln M (mR M a 2) := by unfold txn; omega
  generalize skp (txc M a) (txn M a) 0 = j at *
  subst hx
  refine ⟨⟨by omega, by omega⟩, m3.1, ?_⟩
  suffices H : ∀ (t i c : Nat) (M5 : mM), (ln M (mR M a 2)).toNat + 1 - i ≤ t → (i : Int) ≤ ln M (mR M a 2) → c ≤ i → cuI M a c M5 → rwI kw (txc M a) (txn M a) a c i M5 → h_MM_cut_32 G (d + 5) a i 1 M5 (cutX kw M a) from
    H ((ln M (mR M a 2)).toNat + 1) j 0 M4 (by omega) (by omega) (by omega) ⟨m03, c3, fun q hq => by omega⟩ ⟨fun q hq => by omega, ep.symm⟩
  clear hj c3 t3 w3 m03 l3 m3 e3
  intro t
  induction t with
  | zero => intro i c M5 ht hi; omega
  | succ t ih =>
    intro i c M5 ht hi hci h5 hR
    obtain ⟨m5, c5, g5⟩ := h5
    have w5 := m5.2.1
    have t5 := m5.text h
    have o5 := m5.1
    have el : mI M5 (mR M5 a 2) 1 = ln M (mR M a 2) := by rw [t5.1]; exact t5.2.1
    have hT5 : ln M5 (mR M5 a 2) = ln M (mR M a 2) := el
    have hN5 := (w5.nu w5.tape.2.1).1
    have eC5 : txc M5 a = txc M a := by funext q; unfold txc; rw [t5.1]; exact t5.2.2.1 q
    have eN5 : txn M5 a = txn M a := by unfold txn; rw [t5.1, t5.2.1]
    -- a word is put down
    have put : ∀ (k : Int) (e : Nat), 1 ≤ k → k ≤ 39 → i < e → (e : Int) ≤ ln M (mR M a 2) → (k = 2 → e ≤ i + 9 ∧ ∀ j : Nat, i ≤ j → j < e → 48 ≤ nt M (mR M a 2) j ∧ nt M (mR M a 2) j ≤ 57) → (k = 1 → e ≤ i + 40) → k = wkq (kw (txc M a)) (txc M a) (txn M a) i → e = weq (txc M a) (txn M a) i → Cv G y_MM_word0 (d + 5) [vr a, vi k, vi i, vi e] M5 (fun M6 => mOk M6 ∧ ∀ v : Int, v = (if k = 39 then 0 else 1) → mK M6 a = 14 ∧ Ci G y_MM_skip (d + 5) [vr a, vi e] M6 (fun x M7 => i32 x ∧ mOk M7 ∧ h_MM_cut_32 G (d + 5) a x v M7 (cutX kw M a))) := by
      intro k e k1 k2 hie heT hk2 hk1 hwk hwe
      replace hk2 : Hid _ := hk2
      replace hk1 : Hid _ := hk1
      refine (s_MM_word0 (d := d + 4) ⟨by omega, by omega⟩ ⟨by omega, by omega⟩ ⟨by omega, by omega⟩ o5 w5 c5 (by omega)).mono (fun M6 h6 => ?_)
      obtain ⟨m6, c6, b6, v1, v2, v3⟩ := h6
      have m06 := m5.trans m6
      have w6 := m6.2.1
      have t6 := m06.text h
      have t56 := m6.text w5
      have hT6 : ln M6 (mR M6 a 2) = ln M (mR M a 2) := by rw [t6.1]; exact t6.2.1
      have hnew : wok M6 a (nt M6 (a + 5) c) (nt M6 (a + 7) c) (nt M6 (a + 9) c) := by
        rw [v1, v2, v3]
        refine ⟨⟨by omega, k2⟩, ⟨by omega, by omega, by omega⟩, fun _ => by omega, fun w => ⟨by have := (hk2 w).1; omega, fun j a1 a2 => ?_⟩, fun w => by have := hk1 w; omega⟩
        rw [t6.1, t6.2.2.1]
        exact (hk2 w).2 j (by omega) (by omega)
      have hold : wgd M6 a c := fun j hj => by
        have b := b6 j hj
        rw [b.1, b.2.1, b.2.2]
        exact ⟨(g5 j hj).1.same t56.1 t56.2, (g5 j hj).2⟩
      have eC6 : txc M6 a = txc M a := by funext q; unfold txc; rw [t6.1]; exact t6.2.2.1 q
      have eN6 : txn M6 a = txn M a := by unfold txn; rw [t6.1, t6.2.1]
      have hin : i < txn M a := by omega
      refine ⟨m6.1, fun v hv => ⟨w6.1.1, (x_MM_skip (d := d + 3) (i := e) (by omega) m6.1 w6 (by omega) (by omega)).mono (fun x M7 h7 => ?_)⟩⟩
      obtain ⟨e7, hx⟩ := h7
      subst e7
      rw [eC6, eN6] at hx
      have hjb := skp_b (c := txc M a) (n := txn M a) (i := e) (by omega)
      have hS : k ≠ 39 → rwI kw (txc M a) (txn M a) a (c + 1) (skp (txc M a) (txn M a) e) M7 := fun z => hR.step hin hwk z hwe b6 v1 v2 v3
      have hF : k = 39 → rwx kw (txc M a) (txn M a) a (c + 1) M7 := fun z => hR.fin1 hin (hwk.symm.trans z) b6 (v1.trans z) v2
      clear hwk hwe
      generalize skp (txc M a) (txn M a) e = j at *
      obtain ⟨hj1, hj2⟩ := hjb
      subst hx
      refine ⟨⟨by omega, by omega⟩, m6.1, ?_⟩
      by_cases z : k = 39
      · rw [if_pos z] at hv
        subst hv
        refine k_MM_cut_32 m6.1 ⟨by omega, by omega⟩ ⟨by omega, by omega⟩ ⟨fun w => absurd rfl w, fun _ => ⟨fun _ => k_MM_cut_263 m6.1 ⟨⟨m06, c, c6, by omega, hold, hnew, Or.inr (by rw [v1]; exact z)⟩, c + 1, by omega, c6, hF z⟩, fun w => absurd rfl w⟩, fun w => absurd (Or.inl rfl) w⟩
      · rw [if_neg z] at hv
        subst hv
        refine ih j (c + 1) M7 (by omega) (by omega) (by omega) ⟨m06, c6, fun q hq => ?_⟩ (hS z)
        by_cases y : q = c
        · rw [y]
          exact ⟨hnew, by rw [v1]; exact k1, by rw [v1]; exact z⟩
        · exact hold q (by omega)
    refine k_MM_cut_32 o5 ⟨by omega, by omega⟩ ⟨by omega, by omega⟩ ?_
    rw [el]
    refine ⟨fun _ => ⟨w5.1.1, hN5⟩, fun w => ⟨fun w1 => by omega, fun _ => ⟨w5.1.1, hN5, (s_MM_word0 (d := d + 4) (k := 0) ⟨by omega, by omega⟩ ⟨by omega, by omega⟩ ⟨by omega, by omega⟩ o5 w5 c5 (by omega)).mono (fun M6 h6 => ?_)⟩⟩, fun w => ?_⟩
    · obtain ⟨m6, c6, b6, v1, v2, v3⟩ := h6
      have m06 := m5.trans m6
      have t56 := m6.text w5
      have hT6 : ln M6 (mR M6 a 2) = ln M (mR M a 2) := by rw [t56.1, t56.2.1]; exact hT5
      refine ⟨m6.1, k_MM_cut_263 m6.1 ⟨⟨m06, c, c6, by omega, fun j hj => ?_, ?_, Or.inl v1⟩, c + 1, by omega, c6, hR.fin0 (by omega) b6 v1 (by rw [v2]; omega)⟩⟩
      · have b := b6 j hj
        rw [b.1, b.2.1, b.2.2]
        exact ⟨(g5 j hj).1.same t56.1 t56.2, (g5 j hj).2⟩
      · rw [v1, v2, v3]
        exact ⟨⟨by omega, by omega⟩, ⟨by omega, by omega, by omega⟩, fun w => by omega, fun w => by omega, fun w => by omega⟩
    · have hiT : (i : Int) < ln M (mR M a 2) := by omega
      have hin : i < txn M a := by omega
      have eli : lt M a i = txc M a i := by unfold lt; rw [if_pos hiT]
      have hlt : ∀ j, lt M5 a j = lt M a j := fun j => by unfold lt; rw [t5.1, t5.2.1, t5.2.2.1]
      refine ⟨w5.1.1, (s_MM_letter (d := d + 4) (by omega) o5 w5).mono (fun x M6 h6 => ?_)⟩
      obtain ⟨e6, hx⟩ := h6
      subst e6
      refine ⟨by rw [hx]; exact lt_i32 o5, o5, k_MM_isLetter o5 (by rw [hx]; exact lt_i32 o5) (fun v hv => ?_)⟩
      refine ⟨⟨by split at hv <;> omega, by split at hv <;> omega⟩, o5, fun v0 => ⟨w5.1.1, (s_MM_letter (d := d + 4) (by omega) o5 w5).mono (fun y M7 h7 => ?_)⟩, fun v0 => ?_⟩
      · obtain ⟨e7, hy⟩ := h7
        subst e7
        refine ⟨by rw [hy]; exact lt_i32 o5, o5, k_MM_isDigit o5 (by rw [hy]; exact lt_i32 o5) (fun u hu => ?_)⟩
        refine ⟨⟨by split at hu <;> omega, by split at hu <;> omega⟩, o5, fun u0 => ⟨w5.1.1, (x_MM_signKind (d := d + 3) (by omega) o5 w5).mono (fun z M8 h8 => ?_)⟩, fun u0 => ?_⟩
        · obtain ⟨e8, z9⟩ := h8
          subst e8
          rw [hlt, hlt, lt_lq (i + 1) ht0, eli] at z9
          have nl : ¬ isL (txc M a i) := by
            rw [← eli, ← hlt, ← hx]
            unfold isL
            split at hv <;> omega
          have nd : ¬ isDq (txc M a i) := by
            rw [← eli, ← hlt, ← hy]
            unfold isDq
            split at hu <;> omega
          have hwk : z = wkq (kw (txc M a)) (txc M a) (txn M a) i := by rw [wkq_sg nl nd]; exact z9
          clear hv v0 hu u0 hx hy
          have hwe := weq_sg (n := txn M a) nl nd
          rw [← z9] at hwe
          replace hwe : Hid _ := hwe
          have hwb := (weq_b (c := txc M a) hin).2
          have zb : 16 ≤ z ∧ z ≤ 39 := by
            rw [z9]
            exact sgk_b _ _
          obtain ⟨z1, z2⟩ := zb
          have z3 : z ≤ 20 → ((i + 1 : Nat) : Int) < ln M (mR M a 2) := fun q => by
            unfold Hid at hwe
            rw [if_pos ⟨z1, q⟩] at hwe
            omega
          clear z9
          refine ⟨⟨by omega, by omega⟩, o5, fun r hr q hq => ⟨w5.1.1, ?_⟩⟩
          have hq12 : q = 1 ∨ q = 2 := by split at hq <;> omega
          have hq2 : q = 2 → z ≤ 20 := fun w => by
            rw [w] at hq
            split at hr <;> split at hq <;> omega
          have ep : (i : Int) + q = ((i + q.toNat : Nat) : Int) := by omega
          rw [ep]
          exact put z (i + q.toNat) (by omega) (by omega) (by omega) (by
            rcases hq12 with w | w
            · omega
            · have := z3 (hq2 w)
              omega) (fun w => by omega) (fun w => by omega) hwk (by
            unfold Hid at hwe
            rw [hwe]
            by_cases y20 : 16 ≤ z ∧ z ≤ 20
            · rw [if_pos y20]
              have : r ≠ 0 := by split at hr <;> omega
              have : q = 2 := by split at hq <;> omega
              omega
            · rw [if_neg y20]
              have : r = 0 := by split at hr <;> omega
              have : q = 1 := by split at hq <;> omega
              omega)
        · -- a number
          have hdig : 48 ≤ lt M a i ∧ lt M a i ≤ 57 := by
            rw [← hlt, ← hy]
            split at hu <;> omega
          have hdq : isDq (txc M a i) := by rw [← eli]; exact hdig
          clear hv v0 hu u0 hx hy
          have hwe := weq_dg (n := txn M a) hdq
          have hwk := wkq_dg (n := txn M a) (k1 := kw (txc M a)) hdq
          suffices H2 : ∀ (r l : Nat), r = (ln M (mR M a 2)).toNat - l → i ≤ l → (l : Int) ≤ ln M (mR M a 2) → (∀ j, i ≤ j → j < l → 48 ≤ nt M (mR M a 2) j ∧ nt M (mR M a 2) j ≤ 57) → enq isDq (txc M a) (txn M a - i) i = enq isDq (txc M a) (txn M a - l) l → h_MM_cut_133 G (d + 5) a i l M7 (cutX kw M a) from H2 _ i rfl (by omega) (by omega) (fun j a1 a2 => by omega) rfl
          intro r
          induction r with
          | zero =>
            intro l hr hl hlT hdg hX
            refine k_MM_cut_133 o5 ⟨by omega, by omega⟩ ⟨by omega, by omega⟩ ⟨w5.1.1, (s_MM_letter (d := d + 4) (by omega) o5 w5).mono (fun s M8 h8 => ?_)⟩
            obtain ⟨e8, hs⟩ := h8
            subst e8
            have ew : weq (txc M a) (txn M a) i = l := by rw [hwe, hX, show txn M a - l = 0 by first | rfl | omega]; rfl
            have hs0 : s = 0 := by rw [hs, hlt]; unfold lt; rw [if_neg (by omega)]
            refine ⟨by rw [hs]; exact lt_i32 o5, o5, k_MM_isDigit o5 (by rw [hs]; exact lt_i32 o5) (fun u' hu' => ?_)⟩
            rw [if_pos (by omega)] at hu'
            refine ⟨⟨by omega, by omega⟩, o5, fun _ => ⟨⟨by omega, by omega⟩, fun k hk => ⟨w5.1.1, put k l (by split at hk <;> omega) (by split at hk <;> omega) (by
              refine Nat.lt_of_le_of_ne hl (fun w => ?_)
              subst w
              unfold lt at hdig
              rw [if_neg (by omega)] at hdig
              omega) (by omega) (fun w => ⟨by split at hk <;> omega, hdg⟩) (fun w => by split at hk <;> omega) (by rw [hwk, ew]; split at hk <;> split <;> omega) ew.symm⟩⟩, fun w => absurd hu' w⟩
          | succ r ihr =>
            intro l hr hl hlT hdg hX
            refine k_MM_cut_133 o5 ⟨by omega, by omega⟩ ⟨by omega, by omega⟩ ⟨w5.1.1, (s_MM_letter (d := d + 4) (by omega) o5 w5).mono (fun s M8 h8 => ?_)⟩
            obtain ⟨e8, hs⟩ := h8
            subst e8
            have hs1 : s = nt M (mR M a 2) l := by rw [hs, hlt]; unfold lt; rw [if_pos (by omega)]
            refine ⟨by rw [hs]; exact lt_i32 o5, o5, k_MM_isDigit o5 (by rw [hs]; exact lt_i32 o5) (fun u' hu' => ?_)⟩
            have efl : txn M a - l = (txn M a - (l + 1)) + 1 := by omega
            have ewn : u' = 0 → weq (txc M a) (txn M a) i = l := fun q => by
              have : ¬ isDq (txc M a l) := by
                unfold isDq
                show ¬ (48 ≤ nt M (mR M a 2) l ∧ nt M (mR M a 2) l ≤ 57)
                rw [← hs1]
                split at hu' <;> omega
              rw [hwe, hX, efl, enq_n this]
            have hXy : u' ≠ 0 → enq isDq (txc M a) (txn M a - i) i = enq isDq (txc M a) (txn M a - (l + 1)) (l + 1) := fun q => by
              have : isDq (txc M a l) := by
                unfold isDq
                show 48 ≤ nt M (mR M a 2) l ∧ nt M (mR M a 2) l ≤ 57
                rw [← hs1]
                split at hu' <;> omega
              rw [hX, efl, enq_y this]
            clear hX efl
            refine ⟨⟨by split at hu' <;> omega, by split at hu' <;> omega⟩, o5, fun u0' => ⟨⟨by omega, by omega⟩, fun k hk => ⟨w5.1.1, put k l (by split at hk <;> omega) (by split at hk <;> omega) (by
              refine Nat.lt_of_le_of_ne hl (fun w => ?_)
              subst w
              have : s = lt M a i := by rw [hs, hlt]
              split at hu' <;> omega) (by omega) (fun w => ⟨by split at hk <;> omega, hdg⟩) (fun w => by split at hk <;> omega) (by rw [hwk, ewn u0']; split at hk <;> split <;> omega) (ewn u0').symm⟩⟩, fun u0' => ?_⟩
            exact ihr (l + 1) (by omega) (by omega) (by omega) (fun j a1 a2 => by
              by_cases z : j = l
              · rw [z, ← hs1]
                split at hu' <;> omega
              · exact hdg j a1 (by omega)) (hXy u0')
      · -- a name
        have hlet : isL (lt M a i) := by
          rw [← hlt, ← hx]
          unfold isL
          split at hv <;> omega
        have hlq : isL (txc M a i) := by rw [← eli]; exact hlet
        clear hv v0 hx
        have hwe := weq_lt (n := txn M a) hlq
        have hwk := wkq_lt (n := txn M a) (k1 := kw (txc M a)) hlq
        suffices H2 : ∀ (r l : Nat), r = (ln M (mR M a 2)).toNat - l → i ≤ l → (l : Int) ≤ ln M (mR M a 2) → enq nmq (txc M a) (txn M a - i) i = enq nmq (txc M a) (txn M a - l) l → h_MM_cut_60 G (d + 5) a i l M6 (cutX kw M a) from H2 _ i rfl (by omega) (by omega) rfl
        have h117 : ∀ (k : Int) (l : Nat), 1 ≤ k → k ≤ 39 → i < l → (l : Int) ≤ ln M (mR M a 2) → k ≠ 2 → (k = 1 → l ≤ i + 40) → k = wkq (kw (txc M a)) (txc M a) (txn M a) i → l = weq (txc M a) (txn M a) i → h_MM_cut_117 G (d + 5) a i l k M6 (cutX kw M a) := fun k l k1 k2 hl hlT hk2 hk1 hw1 hw2 =>
          k_MM_cut_117 o5 ⟨by omega, by omega⟩ ⟨by omega, by omega⟩ ⟨by omega, by omega⟩ ⟨w5.1.1, put k l k1 k2 hl hlT (fun w => absurd w hk2) hk1 hw1 hw2⟩
        have hfin : ∀ l : Nat, i ≤ l → (l : Int) ≤ ln M (mR M a 2) → (¬ isL (lt M a l)) → weq (txc M a) (txn M a) i = l → (i32 ((l : Int) - i) ∧ (((l : Int) - i ≤ 40) → (mK M6 a = 14 ∧ Ci G y_MM_wordKind (d + 5) [vr a, vi i, vi l] M6 (fun x M' => i32 x ∧ mOk M' ∧ h_MM_cut_117 G (d + 5) a i l x M' (cutX kw M a)))) ∧ (¬ ((l : Int) - i ≤ 40) → h_MM_cut_117 G (d + 5) a i l 39 M6 (cutX kw M a))) := fun l hl hlT hnl ew => by
          have hil : i < l := Nat.lt_of_le_of_ne hl (fun w => by subst w; exact hnl hlet)
          refine ⟨⟨by omega, by omega⟩, fun w => ⟨w5.1.1, (hWK d a i l M6 o5 w5 hil (by omega) (by omega) (by omega)).mono (fun k M7 h7 => ?_)⟩, fun w => h117 39 l (by omega) (by omega) hil hlT (by omega) (fun w => by omega) (by rw [hwk, ew, if_pos (by omega)]) ew.symm⟩
          obtain ⟨e7, ⟨k1, k2, k3⟩, k4⟩ := h7
          subst e7
          rw [eC5] at k4
          exact ⟨⟨by omega, by omega⟩, o5, h117 k l k1 (by omega) hil hlT k3 (fun _ => by omega) (by rw [hwk, ew, if_neg (by omega)]; exact k4) ew.symm⟩
        intro r
        induction r with
        | zero =>
          intro l hr hl hlT hX
          have ew : weq (txc M a) (txn M a) i = l := by rw [hwe, hX, show txn M a - l = 0 by first | rfl | omega]; rfl
          have hl0 : lt M a l = 0 := by unfold lt; rw [if_neg (by omega)]
          refine k_MM_cut_60 o5 ⟨by omega, by omega⟩ ⟨by omega, by omega⟩ ⟨w5.1.1, (s_MM_letter (d := d + 4) (by omega) o5 w5).mono (fun s M7 h7 => ?_)⟩
          obtain ⟨e7, hs⟩ := h7
          subst e7
          rw [hlt, hl0] at hs
          refine ⟨⟨by omega, by omega⟩, o5, k_MM_isLetter o5 ⟨by omega, by omega⟩ (fun u hu => ?_)⟩
          rw [if_pos (by omega)] at hu
          refine ⟨⟨by omega, by omega⟩, o5, fun _ => ⟨w5.1.1, (s_MM_letter (d := d + 4) (by omega) o5 w5).mono (fun s' M8 h8 => ?_)⟩, fun w => absurd hu w⟩
          obtain ⟨e8, hs'⟩ := h8
          subst e8
          rw [hlt, hl0] at hs'
          refine ⟨⟨by omega, by omega⟩, o5, k_MM_isDigit o5 ⟨by omega, by omega⟩ (fun u' hu' => ?_)⟩
          rw [if_pos (by omega)] at hu'
          refine ⟨⟨by omega, by omega⟩, o5, fun _ => ⟨w5.1.1, (s_MM_letter (d := d + 4) (by omega) o5 w5).mono (fun s'' M9 h9 => ?_)⟩, fun w => absurd hu' w⟩
          obtain ⟨e9, hs''⟩ := h9
          subst e9
          rw [hlt, hl0] at hs''
          exact ⟨⟨by omega, by omega⟩, o5, fun w => by omega, fun _ => hfin l hl hlT (by rw [hl0]; unfold isL; omega) ew⟩
        | succ r ihr =>
          intro l hr hl hlT hX
          have ell : lt M a l = txc M a l := by unfold lt; rw [if_pos (by omega)]
          rw [show txn M a - l = (txn M a - (l + 1)) + 1 by first | rfl | omega] at hX
          have nx : nmq (lt M a l) → h_MM_cut_60 G (d + 5) a i ((l + 1 : Nat) : Int) M6 (cutX kw M a) := fun q => ihr (l + 1) (by omega) (by omega) (by omega) (by rw [hX]; exact enq_y (P := nmq) (by rw [← ell]; exact q))
          have ewn : ¬ nmq (lt M a l) → weq (txc M a) (txn M a) i = l := fun q => by rw [hwe, hX, enq_n (by rw [← ell]; exact q)]
          clear hX
          refine k_MM_cut_60 o5 ⟨by omega, by omega⟩ ⟨by omega, by omega⟩ ⟨w5.1.1, (s_MM_letter (d := d + 4) (by omega) o5 w5).mono (fun s M7 h7 => ?_)⟩
          obtain ⟨e7, hs⟩ := h7
          subst e7
          refine ⟨by rw [hs]; exact lt_i32 o5, o5, k_MM_isLetter o5 (by rw [hs]; exact lt_i32 o5) (fun u hu => ?_)⟩
          have hnl : u = 0 → ¬ isL (lt M a l) := fun w => by
            rw [← hlt, ← hs]
            unfold isL
            split at hu <;> omega
          have hyl : u ≠ 0 → isL (lt M a l) := fun w => by
            rw [← hlt, ← hs]
            unfold isL
            split at hu <;> omega
          refine ⟨⟨by split at hu <;> omega, by split at hu <;> omega⟩, o5, fun u0 => ⟨w5.1.1, (s_MM_letter (d := d + 4) (by omega) o5 w5).mono (fun s' M8 h8 => ?_)⟩, fun u0 => nx (Or.inl (hyl u0))⟩
          obtain ⟨e8, hs'⟩ := h8
          subst e8
          refine ⟨by rw [hs']; exact lt_i32 o5, o5, k_MM_isDigit o5 (by rw [hs']; exact lt_i32 o5) (fun u' hu' => ?_)⟩
          have hdl : u' ≠ 0 ↔ isDq (lt M a l) := by
            rw [← hlt, ← hs', hu']
            unfold isDq
            split <;> omega
          refine ⟨⟨by split at hu' <;> omega, by split at hu' <;> omega⟩, o5, fun u0' => ⟨w5.1.1, (s_MM_letter (d := d + 4) (by omega) o5 w5).mono (fun s'' M9 h9 => ?_)⟩, fun u0' => nx (Or.inr (Or.inl (hdl.mp u0')))⟩
          obtain ⟨e9, hs''⟩ := h9
          subst e9
          rw [hlt] at hs''
          refine ⟨by rw [hs'', ← hlt]; exact lt_i32 o5, o5, fun q => nx (Or.inr (Or.inr (by rw [← hs'']; exact q))), fun q => hfin l hl hlT (hnl u0) (ewn (fun z => ?_))⟩
          rcases z with z | z | z
          · exact hnl u0 z
          · exact hdl.mpr z u0'
          · exact q (by rw [hs'']; exact z)
end WOX
end
section
/-! Class and reference have the same words. -/
section SAM
variable {kw : (Nat → Int) → Nat → Nat → Int} {c : Nat → Int} {N A B D n a Nw : Nat} {M M' : mM}
/-- the words as the machine reads them: n of them, then the end -/
noncomputable def cwq (kw : (Nat → Int) → Nat → Nat → Int) (c : Nat → Int) (N n : Nat) : Nat → Int := fun i => if i < n then wkq (kw c) c N (pwq c N i) else 0
theorem wd_cnt (h : spx kw c N M A B D n) (h' : rwx kw c N a Nw M') (hN : 1 ≤ Nw) : (n + 1 = Nw ∧ nt M' (a + 5) (Nw - 1) = 0 ∧ nt M' (a + 7) (Nw - 1) = N) ∨ (n = Nw ∧ nt M' (a + 5) (Nw - 1) = 39 ∧ wkq (kw c) c N (pwq c N (Nw - 1)) = 39 ∧ nt M' (a + 7) (Nw - 1) = pwq c N (Nw - 1)) := by
  obtain ⟨s1, s2, s3⟩ := h
  obtain ⟨r1, r2⟩ := h'
  rcases s3 with ⟨s3, s4⟩ | ⟨s3, s4⟩ <;> rcases r2 with ⟨r2, r3, r4⟩ | ⟨r2, r3, r4, r5⟩
  · left
    refine ⟨?_, r2, r4⟩
    by_cases y : n + 1 < Nw
    · have := (r1 n y).1; omega
    · by_cases y2 : Nw - 1 < n
      · have := (s1 (Nw - 1) y2).1; omega
      · omega
  · exfalso
    by_cases y : n + 1 < Nw
    · have := (r1 n y).1; omega
    · by_cases y2 : Nw - 1 < n
      · exact s4 (Nw - 1) y2 r4
      · have e : n = Nw - 1 := by omega
        rw [← e] at r3
        omega
  · exfalso
    by_cases y : n - 1 + 1 < Nw
    · exact (r1 (n - 1) y).2.1 s4
    · have := (s1 (Nw - 1) (by omega)).1
      omega
  · right
    refine ⟨?_, r2, r4, r5⟩
    by_cases y : n - 1 + 1 < Nw
    · exact absurd s4 (r1 (n - 1) y).2.1
    · by_cases y2 : Nw - 1 + 1 < n
      · exact absurd r4 (s2 (Nw - 1) y2)
      · omega
/-- word for word -/
theorem wd_same (h : spx kw c N M A B D n) (h' : rwx kw c N a Nw M') (hN : 1 ≤ Nw) : ∀ j, j < Nw → cwq kw c N n j = nt M' (a + 5) j := by
  intro j hj
  unfold cwq
  rcases wd_cnt h h' hN with ⟨e, e2, -⟩ | ⟨e, e2, e3, -⟩
  · by_cases y : j < n
    · rw [if_pos y, (h'.1 j (by omega)).2.2.1]
    · rw [if_neg y, show j = Nw - 1 by first | rfl | omega, e2]
  · rw [if_pos (by omega)]
    by_cases y : j + 1 < Nw
    · rw [(h'.1 j y).2.2.1]
    · rw [show j = Nw - 1 by first | rfl | omega, e2, e3]
/-- sorts -/
theorem wd_sort (h : spx kw c N M A B D n) (hA : mI M A n = 0) : ∀ j, j ≤ n → mI M A j = csq (cwq kw c N n j) := by
  intro j hj
  unfold cwq
  by_cases y : j < n
  · rw [if_pos y]; exact (h.1 j y).2.1
  · rw [if_neg y, show j = n by first | rfl | omega, hA]; decide
end SAM
end
end
section
section
/-! The keywords of class and reference, exactly. -/
section KYX
variable {G : mG}
/-- the kind of a name -/
def kwx (T : Nat → Int) (p e : Nat) : Int := kwq (wlq T p e)
theorem NSx.of (h : LT G) : NSx G kwx := fun d w T A B D N C p n M hO hw h1 h2 h3 => (s_Wo_nameSort h.1 h.2.1 hO hw h1 h3).mono (fun r M' q => ⟨q.1, q.2.1, by
  obtain ⟨-, ⟨r1, r2, r3⟩, r4⟩ := q
  show r = csq (kwq (wlq (mI M T) p (p + n)))
  unfold csq
  rw [if_neg (by omega), if_neg (by omega)]
  exact r4⟩)
theorem WKx.of (h : LT G) : WKx G kwx := fun d a f e M hO hw h1 h2 h3 h4 => s_MM_wordKind h.1 h.2.2 hO hw ⟨by omega, h1, h3⟩ h2
end KYX
end
section
/-! What a rule of consts is worth. A result: (0, a, b) is a over b (a truth: 1 or 0 over 1); (f, p, _) is the fault f at place p. -/
abbrev vrs : Type := Int × Int × Int
def vbd (v : vrs) (f : Int → Int → vrs) : vrs := if v.1 = 0 then f v.2.1 v.2.2 else v
/-- a fraction in least terms, if it is not too large -/
def vst (a b p : Int) : vrs := if 1000000000 ≤ a / (Int.gcd a b : Int) ∨ a / (Int.gcd a b : Int) ≤ -1000000000 ∨ 1000000000 ≤ b / (Int.gcd a b : Int) then (6, p, 0) else (0, a / (Int.gcd a b : Int), b / (Int.gcd a b : Int))
def vtr (p : Prop) [Decidable p] : vrs := if p then (0, 1, 1) else (0, 0, 1)
/-- a sign between two numbers -/
def vop (x a b c d p : Int) : vrs := if x = 24 then vst (a * d + c * b) (b * d) p else if x = 25 then vst (a * d - c * b) (b * d) p else if x = 26 then vst (a * c) (b * d) p else if x = 27 then (if c = 0 then (7, p, 0) else if 0 < c then vst (a * d) (b * c) p else vst (-(a * d)) (-(b * c)) p) else if x = 28 then (if b ≠ 1 ∨ d ≠ 1 then (8, p, 0) else if c ≤ 0 then (7, p, 0) else (0, a % c, 1)) else if x = 18 then vtr (a * d ≠ c * b) else if x = 19 then vtr (a * d ≤ c * b) else if x = 20 then vtr (c * b ≤ a * d) else if x = 21 then vtr (a * d < c * b) else if x = 22 then vtr (c * b < a * d) else vtr (a * d = c * b)
/-- the better of two: x = 14 the least, 15 the most -/
def vbs (x a b c d : Int) : vrs := if x = 14 then (if c * b < a * d then (0, c, d) else (0, a, b)) else (if a * d < c * b then (0, c, d) else (0, a, b))
noncomputable def vlq (w : Nat → Int) (cv : Nat → vrs) (pl : Nat → Int) (c : Nat) (x : Int) (i j : Nat) : vrs :=
  haveI := Classical.propDecidable (lin w i j)
  if hij : i < j then
    if hc : c = 1 then
      if hp : lcq w i (j - i) = 0 then vlq w cv pl 0 0 i j
      else vbd (vlq w cv pl 1 x i (i + lcq w i (j - i) - 1)) (fun a b => vbd (vlq w cv pl 0 0 (i + lcq w i (j - i)) j) (fun e f => vbs x a b e f))
    else if hm : lin w i j then
      if w (loq w i j) = 32 then vbd (vlq w cv pl 0 0 i (loq w i j)) (fun a _ => if a = 0 then vlq w cv pl 0 0 (clq w (loq w i j) j + 1) j else vlq w cv pl 0 0 (loq w i j + 1) (clq w (loq w i j) j))
      else if w (loq w i j) = 29 then vbd (vlq w cv pl 0 0 i (loq w i j)) (fun a b => if a = 0 then (0, a, b) else vlq w cv pl 0 0 (loq w i j + 1) j)
      else if w (loq w i j) = 30 then vbd (vlq w cv pl 0 0 i (loq w i j)) (fun a b => if a = 0 then vlq w cv pl 0 0 (loq w i j + 1) j else (0, a, b))
      else vbd (vlq w cv pl 0 0 i (loq w i j)) (fun a b => vbd (vlq w cv pl 0 0 (loq w i j + 1) j) (fun e f => vop (w (loq w i j)) a b e f (pl (loq w i j))))
    else if w i = 36 then vlq w cv pl 0 0 (i + 1) (j - 1)
    else if w i = 25 then vbd (vlq w cv pl 0 0 (i + 1) j) (fun a b => (0, -a, b))
    else if w i = 31 then vbd (vlq w cv pl 0 0 (i + 1) j) (fun a b => (0, 1 - a, b))
    else if w i = 14 ∨ w i = 15 then vlq w cv pl 1 (w i) (i + 2) (j - 1)
    else cv i
  else (0, 0, 1)
termination_by 2 * (j - i) + c
decreasing_by
  all_goals simp_wf
  all_goals have a1 := lcq_le (w := w) (i := i) (j - i)
  all_goals have a2 := clq_b (w := w) (m := loq w i j) (j := j)
  all_goals first | omega | (have a3 := hm.2; omega)
section VLQ
variable {w pl : Nat → Int} {cv : Nat → vrs} {i j m : Nat} {x : Int}
theorem vl_bin (h : lo w i j = (m : Int)) (h1 : i ≤ m) (h2 : m < j) (h3 : w m ≠ 32) (h4 : w m ≠ 29) (h5 : w m ≠ 30) : vlq w cv pl 0 x i j = vbd (vlq w cv pl 0 0 i m) (fun a b => vbd (vlq w cv pl 0 0 (m + 1) j) (fun e f => vop (w m) a b e f (pl m))) := by
  obtain ⟨a, b⟩ := lin_of h h1 h2
  rw [vlq, dif_pos (by omega), dif_neg (by decide), dif_pos a, b, if_neg h3, if_neg h4, if_neg h5]
theorem vl_and (h : lo w i j = (m : Int)) (h1 : i ≤ m) (h2 : m < j) (h3 : w m = 29) : vlq w cv pl 0 x i j = vbd (vlq w cv pl 0 0 i m) (fun a b => if a = 0 then (0, a, b) else vlq w cv pl 0 0 (m + 1) j) := by
  obtain ⟨a, b⟩ := lin_of h h1 h2
  rw [vlq, dif_pos (by omega), dif_neg (by decide), dif_pos a, b, if_neg (by omega), if_pos h3]
theorem vl_or (h : lo w i j = (m : Int)) (h1 : i ≤ m) (h2 : m < j) (h3 : w m = 30) : vlq w cv pl 0 x i j = vbd (vlq w cv pl 0 0 i m) (fun a b => if a = 0 then vlq w cv pl 0 0 (m + 1) j else (0, a, b)) := by
  obtain ⟨a, b⟩ := lin_of h h1 h2
  rw [vlq, dif_pos (by omega), dif_neg (by decide), dif_pos a, b, if_neg (by omega), if_neg (by omega), if_pos h3]
theorem vl_ask {q : Nat} (h : lo w i j = (m : Int)) (h1 : i ≤ m) (h2 : m < j) (h3 : w m = 32) (hq : clq w m j = q) : vlq w cv pl 0 x i j = vbd (vlq w cv pl 0 0 i m) (fun a _ => if a = 0 then vlq w cv pl 0 0 (q + 1) j else vlq w cv pl 0 0 (m + 1) q) := by
  obtain ⟨a, b⟩ := lin_of h h1 h2
  rw [vlq, dif_pos (by omega), dif_neg (by decide), dif_pos a, b, if_pos h3, hq]
theorem vl_par (h : lo w i j = -1) (hij : i < j) (h3 : w i = 36) : vlq w cv pl 0 x i j = vlq w cv pl 0 0 (i + 1) (j - 1) := by
  rw [vlq, dif_pos hij, dif_neg (by decide), dif_neg (lin_no h), if_pos h3]
theorem vl_neg (h : lo w i j = -1) (hij : i < j) (h3 : w i = 25) : vlq w cv pl 0 x i j = vbd (vlq w cv pl 0 0 (i + 1) j) (fun a b => (0, -a, b)) := by
  rw [vlq, dif_pos hij, dif_neg (by decide), dif_neg (lin_no h), if_neg (by omega), if_pos h3]
theorem vl_not (h : lo w i j = -1) (hij : i < j) (h3 : w i = 31) : vlq w cv pl 0 x i j = vbd (vlq w cv pl 0 0 (i + 1) j) (fun a b => (0, 1 - a, b)) := by
  rw [vlq, dif_pos hij, dif_neg (by decide), dif_neg (lin_no h), if_neg (by omega), if_neg (by omega), if_pos h3]
theorem vl_lst (h : lo w i j = -1) (hij : i < j) (h3 : w i = 14 ∨ w i = 15) : vlq w cv pl 0 x i j = vlq w cv pl 1 (w i) (i + 2) (j - 1) := by
  rw [vlq, dif_pos hij, dif_neg (by decide), dif_neg (lin_no h), if_neg (by omega), if_neg (by omega), if_neg (by omega), if_pos h3]
theorem vl_leaf (h : lo w i j = -1) (hij : i < j) (h3 : w i = 1 ∨ w i = 2 ∨ w i = 12 ∨ w i = 13) : vlq w cv pl 0 x i j = cv i := by
  rw [vlq, dif_pos hij, dif_neg (by decide), dif_neg (lin_no h), if_neg (by omega), if_neg (by omega), if_neg (by omega), if_neg (by omega)]
theorem vl_l1 (hij : i < j) (h : lcq w i (j - i) = 0) : vlq w cv pl 1 x i j = vlq w cv pl 0 0 i j := by
  rw [vlq, dif_pos hij, dif_pos rfl, dif_pos h]
theorem vl_ln (hij : i < j) (h : lcq w i (j - i) = m - i + 1) (hm : i ≤ m) : vlq w cv pl 1 x i j = vbd (vlq w cv pl 1 x i m) (fun a b => vbd (vlq w cv pl 0 0 (m + 1) j) (fun e f => vbs x a b e f)) := by
  rw [vlq, dif_pos hij, dif_pos rfl, dif_neg (by omega), h, show i + (m - i + 1) - 1 = m by first | rfl | omega, show i + (m - i + 1) = m + 1 by first | rfl | omega]
end VLQ
end
section
/-! A hundred steps of Euclid are enough. -/
def fpq : Nat → Nat × Nat
  | 0 => (1, 1)
  | s + 1 => ((fpq s).2, (fpq s).1 + (fpq s).2)
/-- after s steps nothing is left -/
def dnq : Nat → Nat → Nat → Prop
  | 0, _, b => b = 0
  | s + 1, a, b => b = 0 ∨ dnq s b (a % b)
def euq : Nat → Nat → Nat → Nat
  | 0, a, _ => a
  | s + 1, a, b => if b = 0 then a else euq s b (a % b)
theorem dn_fib : ∀ (s a b : Nat), ¬ dnq s a b → (fpq s).1 ≤ b ∧ (b ≤ a → (fpq s).2 ≤ a)
  | 0, a, b, h => by
    have hb : b ≠ 0 := h
    exact ⟨by show 1 ≤ b; omega, fun q => by show 1 ≤ a; omega⟩
  | s + 1, a, b, h => by
    have hb : b ≠ 0 := fun q => h (Or.inl q)
    have h2 : ¬ dnq s b (a % b) := fun q => h (Or.inr q)
    obtain ⟨i1, i2⟩ := dn_fib s b (a % b) h2
    have hlt := Nat.mod_lt a (Nat.pos_of_ne_zero hb)
    have i3 := i2 (Nat.le_of_lt hlt)
    refine ⟨i3, fun q => ?_⟩
    show (fpq s).1 + (fpq s).2 ≤ a
    have e := Nat.mod_add_div a b
    have p : 1 ≤ a / b := Nat.div_pos q (Nat.pos_of_ne_zero hb)
    have m : b * 1 ≤ b * (a / b) := Nat.mul_le_mul_left b p
    omega
theorem eu_gcd : ∀ (s a b : Nat), dnq s a b → euq s a b = Nat.gcd a b
  | 0, a, b, h => by
    have hb : b = 0 := h
    subst hb
    show a = Nat.gcd a 0
    rw [Nat.gcd_zero_right]
  | s + 1, a, b, h => by
    show (if b = 0 then a else euq s b (a % b)) = Nat.gcd a b
    by_cases y : b = 0
    · rw [if_pos y, y, Nat.gcd_zero_right]
    · rw [if_neg y]
      rcases h with h | h
      · exact absurd h y
      · rw [eu_gcd s b (a % b) h, Nat.gcd_comm a b, Nat.gcd_rec b a, Nat.gcd_comm]
theorem dn_99 {a b : Nat} (hb : b ≤ 9223372036854775807) : dnq 99 a b := by
  refine Classical.byContradiction (fun h => ?_)
  have h1 := (dn_fib 99 a b h).1
  have h2 : (fpq 99).1 = 354224848179261915075 := by decide +kernel
  rw [h2] at h1
  omega
theorem dnu9 : ∀ (s a b : Nat), dnq s a b → dnq (s + 1) a b
  | 0, a, b, h => Or.inl h
  | s + 1, a, b, h => by
    rcases h with h | h
    · exact Or.inl h
    · exact Or.inr (dnu9 s b (a % b) h)
theorem eu_100 {a b : Nat} (hb : b ≤ 9223372036854775807) : euq 100 a b = Nat.gcd a b := eu_gcd 100 a b (dnu9 99 a b (dn_99 hb))
end
end
section
section
/-! The class's machine: the common divisor, exactly. -/
section MDX
variable {G : mG} {d : Nat} {M : mM}
theorem x_Ma_commonDivisor {x y : Int} (hx : -9223372036854775807 ≤ x ∧ x ≤ 9223372036854775807) (hy : 1 ≤ y ∧ y ≤ 9223372036854775807) (hO : mOk M) : Cj G y_Ma_commonDivisor d [vl x, vl y] M (fun v M' => M' = M ∧ (1 ≤ v ∧ v ≤ y) ∧ v = (Int.gcd x y : Int)) := by
  refine k_Ma_commonDivisor hO ⟨by omega, by omega⟩ ⟨by omega, by omega⟩ (fun v2 e2 => ?_)
  have ev : v2 = (x.natAbs : Int) := by
    have := (cmpz x 0).1
    rw [e2]
    split <;> omega
  have ey : y = ((y.natAbs : Nat) : Int) := by omega
  have g0 : Int.gcd x y = Nat.gcd x.natAbs y.natAbs := rfl
  have gp : 1 ≤ Nat.gcd x.natAbs y.natAbs := Nat.gcd_pos_of_pos_right _ (by omega)
  have gl : Nat.gcd x.natAbs y.natAbs ≤ y.natAbs := Nat.gcd_le_right _ (by omega)
  have e100 : euq 100 x.natAbs y.natAbs = Nat.gcd x.natAbs y.natAbs := eu_100 (by omega)
  rw [g0]
  generalize Nat.gcd x.natAbs y.natAbs = gg at *
  have hp : x.natAbs ≤ 9223372036854775807 := by omega
  have hq : y.natAbs ≤ 9223372036854775807 := by omega
  have hyy : (gg : Int) ≤ y := by omega
  clear e2 g0 gl
  rw [ev]
  have key : ∀ (s i p q : Nat), i + s = 100 → p ≤ 9223372036854775807 → q ≤ 9223372036854775807 → euq s p q = gg → h_Ma_commonDivisor_20 G d (p : Int) (q : Int) i M (fun v M' => M' = M ∧ (1 ≤ v ∧ v ≤ y) ∧ v = (gg : Int)) := by
    intro s
    induction s with
    | zero =>
      intro i p q hi bp bq he
      have he : p = gg := he
      have ca := (cmpz (p : Int) 0).2.2.2.1
      refine k_Ma_commonDivisor_20 hO ⟨by omega, by omega⟩ ⟨by omega, by omega⟩ (i32s (by omega) (by omega)) ⟨fun _ v12 e12 => ?_, fun z => absurd (Or.inl (by omega)) z⟩
      rw [if_neg (by rw [ca]; omega)] at e12
      rw [e12, he]
      exact ⟨rfl, ⟨by omega, hyy⟩, rfl⟩
    | succ s ih =>
      intro i p q hi bp bq he
      have he : (if q = 0 then p else euq s q (p % q)) = gg := he
      have ca := (cmpz (p : Int) 0).2.2.2.1
      have cb := (cmpz (q : Int) 0).2.2.2.1
      refine k_Ma_commonDivisor_20 hO ⟨by omega, by omega⟩ ⟨by omega, by omega⟩ (i32s (by omega) (by omega)) ⟨fun z v12 e12 => ?_, fun z => ?_⟩
      · have q0 : q = 0 := by
          rcases z with z | z
          · omega
          · rw [cb] at z; omega
        rw [if_pos q0] at he
        rw [if_neg (by rw [ca]; omega)] at e12
        rw [e12, he]
        exact ⟨rfl, ⟨by omega, hyy⟩, rfl⟩
      · have q0 : q ≠ 0 := fun u => z (Or.inr (by rw [cb]; omega))
        rw [if_neg q0] at he
        have hlt := Nat.mod_lt p (Nat.pos_of_ne_zero q0)
        refine ⟨by omega, ?_⟩
        have em : Int.tmod (p : Int) (q : Int) = ((p % q : Nat) : Int) := rfl
        rw [em]
        exact ih (i + 1) q (p % q) (by omega) bq (by omega) he
  have k0 := key 100 0 x.natAbs y.natAbs (by omega) hp hq e100
  rw [← ey] at k0
  exact k0
end MDX
end
section
/-! The class's machine, exactly: push, stop, settle, relate, compute. -/
section MAX
variable {G : mG} {d z m U Ab Be C Ab0 Be0 C0 t s c p O P K : Nat} {M0 M M' M1 M2 : mM} {S R : Nat → Prop}
/-- what sets, stamps, met values and calls hold is the same -/
def mtq (m : Nat) (M M' : mM) : Prop := ∀ b, b = m + 2 ∨ (m + 5 ≤ b ∧ b ≤ m + 9) → mI M' b = mI M b
theorem mtq.refl {m : Nat} {M : mM} : mtq m M M := fun _ _ => rfl
theorem mtq.trans {m : Nat} {M M1 M2 : mM} (h : mtq m M M1) (k : mtq m M1 M2) : mtq m M M2 := fun b hb => (k b hb).trans (h b hb)
theorem mtq.mtb {m : Nat} {M M' : mM} (h : mtq m M M') : mtb m M M' := fun b h1 h2 => h b (Or.inr ⟨h1, h2⟩)
theorem mtq.fi {m : Nat} {M M' : mM} (f : FI (fun b => b = m) M M') : mtq m M M' := fun b hb => f.2.2.2.2.2.2 b (show ¬ b = m by first | rfl | omega)
theorem mtq.abv {z m U Ab0 Be0 C0 t c j : Nat} {M0 M M1 : mM} {x : Int} (h : MS M0 z m U Ab0 Be0 C0 M t c) (e1 : M1 = mUI M (mR M m 6) j x) : mtq m M M1 := fun b hb => by
  obtain ⟨Ab, Be, C, -, hk, -⟩ := h
  obtain ⟨sA, sB, sne, sz⟩ := hk.2.2.2.2.2.1
  have r6 := hk.2.1.2.2.1
  have f1 : FI (fun b => b = mR M m 6) M M1 := by rw [e1]; exact FI.ui rfl
  exact f1.2.2.2.2.2.2 b (show ¬ b = mR M m 6 by first | rfl | omega)
theorem mtq.val {z m U Ab0 Be0 C0 t c j : Nat} {M0 M M1 M2 : mM} {x y : Int} (h : MS M0 z m U Ab0 Be0 C0 M t c) (e1 : M1 = mUI M (mR M m 6) j x) (e2 : M2 = mUI M1 (mR M1 m 7) j y) : mtq m M M2 := fun b hb => by
  obtain ⟨Ab, Be, C, -, hk, -⟩ := id h
  obtain ⟨sA, sB, sne, sz⟩ := hk.2.2.2.2.2.1
  have r7 := hk.2.1.2.2.2.1
  have r1 : mR M1 m 7 = mR M m 7 := by rw [e1]; rfl
  have f2 : FI (fun b => b = mR M1 m 7) M1 M2 := by rw [e2]; exact FI.ui rfl
  rw [f2.2.2.2.2.2.2 b (show ¬ b = mR M1 m 7 by first | rfl | omega)]
  exact mtq.abv h e1 b hb
/-- below the t-th value the pile is the same -/
def plq (M M' : mM) (m t : Nat) : Prop := ∀ j, j < t → mI M' (mR M' m 6) j = mI M (mR M m 6) j ∧ mI M' (mR M' m 7) j = mI M (mR M m 7) j
/-- the t-th value is x over y -/
def ptq (M : mM) (m t : Nat) (x y : Int) : Prop := mI M (mR M m 6) t = x ∧ mI M (mR M m 7) t = y
theorem plq.refl : plq M M m t := fun _ _ => ⟨rfl, rfl⟩
theorem plq.trans (h : plq M M1 m t) (k : plq M1 M2 m t) : plq M M2 m t := fun j hj => ⟨by rw [(k j hj).1, (h j hj).1], by rw [(k j hj).2, (h j hj).2]⟩
theorem plq.mono {t' : Nat} (h : plq M M' m t) (ht : t' ≤ t) : plq M M' m t' := fun j hj => h j (by omega)
theorem plq.pt {x y : Int} {j : Nat} (h : plq M M' m t) (hj : j < t) (k : ptq M m j x y) : ptq M' m j x y := ⟨by rw [(h j hj).1]; exact k.1, by rw [(h j hj).2]; exact k.2⟩
/-- only the machine's own cell has changed -/
theorem plq.fi (f : FI (fun b => b = m) M M') (h : m ≠ mR M m 6 ∧ m ≠ mR M m 7) : plq M M' m t := fun j _ => by
  rw [f.2.2.1, f.2.2.2.2.2.2 _ (fun u => h.1 u.symm), f.2.2.2.2.2.2 _ (fun u => h.2 u.symm)]
  exact ⟨rfl, rfl⟩
theorem x_Ma_push {x y : Int} (h : MS M0 z m U Ab0 Be0 C0 M t c) (ht : t ≤ 16384) (hx : i32 x) (hy : 1 ≤ y ∧ y < 1000000000) : Cv G y_Ma_push (d + 2) [vr m, vi x, vi y] M (fun M' => MS M0 z m U Ab0 Be0 C0 M' (t + 1) c ∧ mtq m M M' ∧ plq M M' m t ∧ ptq M' m t x y) := by
  obtain ⟨Ab, Be, C, ok, hk, hf, hab, hr, ⟨h8, htC, hb⟩, hc, hm⟩ := h
  obtain ⟨k0, ⟨r3, r5, r6, r7, r10, r11, r12, r13, r14⟩, ⟨kU, k2, kA, kB, k5, k6, k7, k8, k9⟩, ⟨n2, nA, nB, n5, n6, n7, n8, n9⟩, hbs, ⟨sA, sB, sne, sz⟩, ⟨z0, zA, zB, zU⟩, ⟨c64, c32⟩⟩ := id hk
  have iy : i32 y := ⟨by omega, by omega⟩
  refine k_Ma_push ok hx iy ?_
  rw [r6, nA, h8]
  refine ⟨k0, kA, ⟨by omega, by omega⟩, fun e => ?_, fun e => ?_⟩
  · -- the pile grows
    have eC : C = t := by omega
    replace sA : Hid _ := sA
    replace sB : Hid _ := sB
    replace sne : Hid _ := sne
    replace hab : Hid _ := hab
    subst eC
    rw [show (2 : Int) * (C : Int) = ((2 * C : Nat) : Int) by first | rfl | omega]
    refine (s_JA_copyOf ok kA zA (by omega) (by omega)).mono (fun x10 M9 q => ?_)
    obtain ⟨ex, o9, f9, Z9, S9, K9, N9, I9⟩ := q
    subst ex
    have m9 : m < mZ M := by omega
    refine ⟨o9, by rw [(f9.2 m m9).1]; exact k0, fun M13 e13 => ?_⟩
    have f13 : FA (fun _ => False) (fun x => x = m) M9 M13 := FA.ur rfl e13
    have Z13 : mZ M13 = mZ M + 1 := by rw [e13]; exact Z9
    have g13 : FA (fun _ => False) (fun x => x = m) M M13 := (f9.mono (fun _ _ q => q) (fun _ _ q => q.elim)).trans f13
    have i13 : mI M13 m 8 = C := by rw [e13, mI_UR, (f9.2 m m9).2.2.2.2 (fun q => q)]; exact h8
    have b13 : mR M13 m 7 = Be := by rw [e13, mR_UR, if_neg (by omega), (f9.2 m m9).2.2.2.1 (fun q => q)]; exact r7
    have o13 : mOk M13 := by rw [e13]; exact o9
    rw [b13, i13, show (2 : Int) * (C : Int) = ((2 * C : Nat) : Int) by first | rfl | omega]
    refine (s_JA_copyOf (l := 2 * C) o13 (by rw [(g13.2 Be zB).1]; exact kB) (by omega) (by rw [(g13.2 Be zB).2.1]; omega) (by omega)).mono (fun x16 M15 q => ?_)
    obtain ⟨ex, o15, f15, Z15, S15, K15, N15, I15⟩ := q
    subst ex
    rw [Z13] at K15 N15 I15 Z15
    have iA30 : ∀ j, j < C → mI M9 (mZ M) j = mI M Ab j := fun j hj => I9 j (by omega)
    have nB13 : mN M13 Be = C := by rw [(g13.2 Be zB).2.1]; exact nB
    have iB13 : mI M13 Be = mI M Be := (g13.2 Be zB).2.2.2.2 (fun q => q)
    rw [nB13, iB13] at I15
    refine ⟨o15, by rw [(f15.2 m (by omega)).1, (g13.2 m m9).1]; exact k0, fun M19 e19 => ?_⟩
    have f19 : FA (fun _ => False) (fun x => x = m) M15 M19 := FA.ur rfl e19
    have f13_15 : FA (fun _ => False) (fun x => x = m) M13 M15 := f15.mono (fun _ _ q => q) (fun _ _ q => q.elim)
    have g19 : FA (fun _ => False) (fun x => x = m) M M19 := (g13.trans f13_15).trans f19
    have o19 : mOk M19 := by rw [e19]; exact o15
    have Z19 : mZ M19 = mZ M + 2 := by rw [e19, mZ_UR, Z15]
    have S19 : mS M19 = mS M + 4 * C := by rw [e19, mS_UR, S15, e13, mS_UR, S9]; omega
    have k19 : ∀ b, mK M19 b = mK M15 b := fun b => by rw [e19]; rfl
    have n19 : ∀ b, mN M19 b = mN M15 b := fun b => by rw [e19]; rfl
    have i19 : ∀ b, mI M19 b = mI M15 b := fun b => by rw [e19]; rfl
    have kZ : mK M19 (mZ M) = 30 := by rw [k19, (f15.2 (mZ M) (by omega)).1, e13]; exact K9
    have nZ : mN M19 (mZ M) = 2 * C := by rw [n19, (f15.2 (mZ M) (by omega)).2.1, e13]; exact N9
    have kZ1 : mK M19 (mZ M + 1) = 30 := by rw [k19]; exact K15
    have nZ1 : mN M19 (mZ M + 1) = 2 * C := by rw [n19]; exact N15
    have iZ1 : ∀ j, j < C → mI M19 (mZ M + 1) j = mI M Be j := fun j hj => by rw [i19]; exact I15 j hj
    have R19 : ∀ i, mR M19 m i = if i = 7 then mZ M + 1 else if i = 6 then mZ M else mR M m i := fun i => by
      rw [e19, mR_UR, Z13]
      by_cases y7 : i = 7
      · rw [if_pos ⟨rfl, y7⟩, if_pos y7]
      · rw [if_neg (fun q => y7 q.2), if_neg y7, (f15.2 m (by omega)).2.2.2.1 (fun q => q), e13, mR_UR]
        by_cases y6 : i = 6
        · rw [if_pos ⟨rfl, y6⟩, if_pos y6]
        · rw [if_neg (fun q => y6 q.2), if_neg y6, (f9.2 m m9).2.2.2.1 (fun q => q)]
    have M19i : ∀ b, b < mZ M → mI M19 b = mI M b := fun b hb => (g19.2 b hb).2.2.2.2 (fun q => q)
    have t19 : mI M19 m 8 = C := by rw [M19i m m9]; exact h8
    rw [R19 6, if_neg (by decide), if_pos rfl, t19, nZ, Int.toNat_natCast]
    refine ⟨kZ, by omega, fun M23 e23 => ?_⟩
    have f23 : FI (fun b => b = mZ M) M19 M23 := by rw [e23]; exact FI.ui rfl
    have t23 : mI M23 m 8 = C := by rw [f23.2.2.2.2.2.2 m (by omega)]; exact t19
    rw [f23.2.2.1, R19 7, if_pos rfl, f23.1, f23.2.1, t23, nZ1, Int.toNat_natCast]
    refine ⟨kZ1, by omega, fun M27 e27 => ?_⟩
    have f27 : FI (fun b => b = mZ M + 1) M23 M27 := by rw [e27]; exact FI.ui rfl
    have t27 : mI M27 m 8 = C := by rw [f27.2.2.2.2.2.2 m (by omega)]; exact t23
    rw [t27]
    refine ⟨⟨by omega, by omega⟩, fun M30 e30 => ?_⟩
    have f30 : FI (fun b => b = m) M27 M30 := by rw [e30]; exact FI.ui rfl
    have f1930 : FI (fun b => b = m ∨ b = mZ M ∨ b = mZ M + 1) M19 M30 := ((f23.mono (fun _ q => Or.inr (Or.inl q))).trans (f27.mono (fun _ q => Or.inr (Or.inr q)))).trans (f30.mono (fun _ q => Or.inl q))
    have FF : FA (fun x => x = m) (fun x => x = m) M M30 := (g19.mono (fun _ _ q => q.elim) (fun _ _ q => q)).trans2 (FI.fa (R := fun _ => False) f1930) (fun x hx q => by
      rcases q with q | q | q
      · exact q
      · omega
      · omega) (fun _ _ q => q.elim)
    have o30 : mOk M30 := by rw [e30]; exact mOk_UI (by rw [e27]; exact mOk_UI (by rw [e23]; exact mOk_UI o19 hx) iy) ⟨by omega, by omega⟩
    have i30 : ∀ i, mI M30 m i = if i = 8 then (C : Int) + 1 else mI M m i := fun i => by
      rw [mI_ui m i e30]
      by_cases y8 : i = 8
      · rw [if_pos ⟨rfl, y8⟩, if_pos y8]
      · rw [if_neg (fun q => y8 q.2), if_neg y8, f27.2.2.2.2.2.2 m (by omega), f23.2.2.2.2.2.2 m (by omega), M19i m m9]
    have b30 : ∀ j, j < C + 1 → mI M30 (mZ M + 1) j = if j = C then y else mI M Be j := fun j hj => by
      rw [f30.2.2.2.2.2.2 (mZ M + 1) (by omega), mI_ui _ j e27]
      by_cases yC : j = C
      · rw [if_pos ⟨rfl, yC⟩, if_pos yC]
      · rw [if_neg (fun q => yC q.2), if_neg yC, f23.2.2.2.2.2.2 (mZ M + 1) (by omega), iZ1 j (by omega)]
    have a30 : ∀ j, j < C + 1 → mI M30 (mZ M) j = if j = C then x else mI M Ab j := fun j hj => by
      rw [f30.2.2.2.2.2.2 (mZ M) (by omega), f27.2.2.2.2.2.2 (mZ M) (by omega), mI_ui _ j e23]
      by_cases yC : j = C
      · rw [if_pos ⟨rfl, yC⟩, if_pos yC]
      · rw [if_neg (fun q => yC q.2), if_neg yC, i19, (f15.2 (mZ M) (by omega)).2.2.2.2 (fun q => q), e13, mI_UR, iA30 j (by omega)]
    have R30 : ∀ i, mR M30 m i = if i = 7 then mZ M + 1 else if i = 6 then mZ M else mR M m i := fun i => by rw [f1930.2.2.1]; exact R19 i
    have kk : ∀ b, b < mZ M → mK M30 b = mK M b := fun b hb => (FF.2 b hb).1
    have nn : ∀ b, b < mZ M → mN M30 b = mN M b := fun b hb => (FF.2 b hb).2.1
    have z30 : mZ M30 = mZ M + 2 := by rw [f1930.2.2.2.2.1]; exact Z19
    have s30 : mS M30 = mS M + 4 * C := by rw [f1930.2.2.2.2.2.1]; exact S19
    refine ⟨⟨mZ M, mZ M + 1, 2 * C, o30, ?_, ?_, ⟨Or.inr hf.1.1, Or.inr (by have := hf.1.1; omega)⟩, ⟨by omega, by omega⟩, ⟨by rw [i30, if_pos rfl]; omega, by omega, fun j hj => ?_⟩, by rw [i30, if_neg (by decide)]; exact hc, by rw [i30, if_neg (by decide)]; exact hm.1, by rw [i30, if_neg (by decide)]; exact hm.2.1, by rw [R30, if_neg (by decide), if_neg (by decide)]; exact hm.2.2⟩, fun b hb => ?_, fun j hj => ?_, ?_⟩
    · unfold MK
      rw [kk m m9, kk U zU, kk (m + 2) (by omega), kk (m + 5) (by omega), kk (m + 6) (by omega), kk (m + 7) (by omega), kk (m + 8) (by omega), kk (m + 9) (by omega), nn (m + 2) (by omega), nn (m + 5) (by omega), nn (m + 6) (by omega), nn (m + 7) (by omega), nn (m + 8) (by omega), nn (m + 9) (by omega), nn U zU, R30 3, R30 5, R30 6, R30 7, R30 10, R30 11, R30 12, R30 13, R30 14, i30 4, z30, f1930.1, f1930.2.1]
      refine ⟨k0, ⟨r3, r5, rfl, rfl, r10, r11, r12, r13, r14⟩, ⟨kU, k2, kZ, kZ1, k5, k6, k7, k8, k9⟩, ⟨n2, nZ, nZ1, n5, n6, n7, n8, n9⟩, hbs, ⟨Or.inr z0, Or.inr (by omega), by omega, sz⟩, ⟨by omega, by omega, by omega, by omega⟩, ⟨by omega, by omega⟩⟩
    · exact hf.trans2 FF (fun x hx q => Or.inl q) (fun _ _ q => q)
    · rw [b30 j hj]
      by_cases yC : j = C
      · rw [if_pos yC]; exact hy
      · rw [if_neg yC]; exact hb j (by omega)
    · rw [(FF.2 b (by omega)).2.2.2.2 (by omega)]
    · rw [R30 6, if_neg (by decide), if_pos rfl, R30 7, if_pos rfl, a30 j (by omega), if_neg (by omega), b30 j (by omega), if_neg (by omega), r6, r7]
      exact ⟨rfl, rfl⟩
    · unfold ptq
      rw [R30 6, if_neg (by decide), if_pos rfl, R30 7, if_pos rfl, a30 C (by omega), if_pos rfl, b30 C (by omega), if_pos rfl]
      exact ⟨rfl, rfl⟩
  · rw [Int.toNat_natCast]
    refine ⟨by omega, fun M33 e33 => ?_⟩
    have f33 : FI (fun b => b = Ab) M M33 := by rw [e33]; exact FI.ui rfl
    have mA : m ≠ Ab := by omega
    have mB : m ≠ Be := by omega
    replace sA : Hid _ := sA
    replace sB : Hid _ := sB
    replace hab : Hid _ := hab
    have t33 : mI M33 m 8 = t := by rw [f33.2.2.2.2.2.2 m mA]; exact h8
    rw [f33.2.2.1, r7, f33.1, f33.2.1, t33, nB, Int.toNat_natCast]
    refine ⟨kB, by omega, fun M37 e37 => ?_⟩
    have f37 : FI (fun b => b = Be) M33 M37 := by rw [e37]; exact FI.ui rfl
    have t37 : mI M37 m 8 = t := by rw [f37.2.2.2.2.2.2 m mB]; exact t33
    rw [t37]
    refine ⟨⟨by omega, by omega⟩, fun M40 e40 => ?_⟩
    have f40 : FI (fun b => b = m) M37 M40 := by rw [e40]; exact FI.ui rfl
    have o40 : mOk M40 := by rw [e40]; exact mOk_UI (by rw [e37]; exact mOk_UI (by rw [e33]; exact mOk_UI ok hx) iy) ⟨by omega, by omega⟩
    have ff : FI (mcS m Ab Be) M M40 := ((f33.mono (fun _ q => Or.inr (Or.inr (Or.inr (Or.inl q))))).trans (f37.mono (fun _ q => Or.inr (Or.inr (Or.inr (Or.inr q)))))).trans (f40.mono (fun _ q => Or.inl q))
    have i40 : ∀ i, mI M40 m i = if i = 8 then (t : Int) + 1 else mI M m i := fun i => by
      rw [mI_ui m i e40]
      by_cases y8 : i = 8
      · rw [if_pos ⟨rfl, y8⟩, if_pos y8]
      · rw [if_neg (fun q => y8 q.2), if_neg y8, f37.2.2.2.2.2.2 m mB, f33.2.2.2.2.2.2 m mA]
    refine ⟨ms_step (t' := t + 1) (c' := c) o40 hk hf hab hr hm ff (by rw [i40, if_neg (by decide)]) (by rw [i40, if_neg (by decide)]) (by rw [i40, if_pos rfl]; omega) (by omega) (fun j hj => ?_) (by rw [i40, if_neg (by decide)]; exact hc), fun b hb => ?_, fun j hj => ?_, ?_⟩
    · rw [f40.2.2.2.2.2.2 Be (fun q => mB q.symm), mI_ui Be j e37]
      by_cases yt : j = t
      · rw [if_pos ⟨rfl, yt⟩]; exact hy
      · rw [if_neg (fun q => yt q.2), f33.2.2.2.2.2.2 Be (fun q => sne q.symm)]
        exact hb j (by omega)
    · unfold Hid at sA sB
      rw [f40.2.2.2.2.2.2 b (by omega), f37.2.2.2.2.2.2 b (by omega), f33.2.2.2.2.2.2 b (by omega)]
    · rw [ff.2.2.1, r6, r7, f40.2.2.2.2.2.2 Ab (fun q => mA q.symm), f40.2.2.2.2.2.2 Be (fun q => mB q.symm), f37.2.2.2.2.2.2 Ab sne, mI_ui Ab j e33, mI_ui Be j e37, if_neg (by omega), if_neg (by omega), f33.2.2.2.2.2.2 Be (fun q => sne q.symm)]
      exact ⟨rfl, rfl⟩
    · unfold ptq
      rw [ff.2.2.1, r6, r7, f40.2.2.2.2.2.2 Ab (fun q => mA q.symm), f40.2.2.2.2.2.2 Be (fun q => mB q.symm), f37.2.2.2.2.2.2 Ab sne, mI_ui Ab t e33, mI_ui Be t e37, if_pos ⟨rfl, rfl⟩, if_pos ⟨rfl, rfl⟩]
      exact ⟨rfl, rfl⟩
theorem x_Ma_stop {x y : Int} (hx : i32 x) (hy : i32 y) (h : MS M0 z m U Ab0 Be0 C0 M t c) : Ci G y_Ma_stop d [vr m, vi x, vi y] M (fun r M' => r = 0 ∧ MS M0 z m U Ab0 Be0 C0 M' t c ∧ mtq m M M' ∧ mI M' m 1 = x ∧ mI M' m 2 = y) := by
  have ok : mOk M := by obtain ⟨_, _, _, ok, -⟩ := h; exact ok
  have k0 : mK M m = 5 := by obtain ⟨_, _, _, -, hk, -⟩ := h; exact hk.1
  refine k_Ma_stop ok hx hy ⟨k0, fun M2 e2 M4 e4 => ?_⟩
  obtain ⟨h2, -⟩ := ms_fld h hx e2 (by decide) (by decide) (by decide) (by decide)
  obtain ⟨h4, -⟩ := ms_fld h2 hy e4 (by decide) (by decide) (by decide) (by decide)
  have b2 : mtq m M M2 := mtq.fi (by rw [e2]; exact FI.ui rfl)
  have b4 : mtq m M2 M4 := mtq.fi (by rw [e4]; exact FI.ui rfl)
  exact ⟨rfl, h4, b2.trans b4, by rw [mI_ui m 1 e4, if_neg (fun t => absurd t.2 (by decide)), mI_ui m 1 e2, if_pos ⟨rfl, rfl⟩], by rw [mI_ui m 2 e4, if_pos ⟨rfl, rfl⟩]⟩
/-- a value of the pile is written: the others stay -/
theorem pl_val {j : Nat} {x y : Int} (hne : m ≠ mR M m 6 ∧ m ≠ mR M m 7) (ne : mR M m 6 ≠ mR M m 7) (e1 : M1 = mUI M (mR M m 6) j x) (e2 : M2 = mUI M1 (mR M1 m 7) j y) : plq M M2 m j ∧ ptq M2 m j x y := by
  have r1 : mR M1 = mR M := by rw [e1]; rfl
  have r2 : mR M2 = mR M := by rw [e2]; exact r1
  rw [r1] at e2
  unfold plq ptq
  rw [r2]
  refine ⟨fun i hi => ⟨?_, ?_⟩, ?_, ?_⟩
  · rw [mI_ui _ i e2, if_neg (fun q => ne q.1), mI_ui _ i e1, if_neg (fun q => by have := q.2; omega)]
  · rw [mI_ui _ i e2, if_neg (fun q => by have := q.2; omega), mI_ui _ i e1, if_neg (fun q => ne q.1.symm)]
  · rw [mI_ui _ j e2, if_neg (fun q => ne q.1), mI_ui _ j e1, if_pos ⟨rfl, rfl⟩]
  · rw [mI_ui _ j e2, if_pos ⟨rfl, rfl⟩]
/-- what an order leaves behind: v its result, t values below it -/
def cpx (M0 : mM) (z m U Ab0 Be0 C0 : Nat) (M : mM) (t c : Nat) (v : vrs) (r : Int) (M' : mM) : Prop := ((r = 0 ∧ v.1 ≠ 0 ∧ mI M' m 1 = v.1 ∧ mI M' m 2 = v.2.1 ∧ ∃ t2, MS M0 z m U Ab0 Be0 C0 M' t2 c) ∨ (r = 1 ∧ v.1 = 0 ∧ MS M0 z m U Ab0 Be0 C0 M' (t + 1) c ∧ plq M M' m t ∧ ptq M' m t v.2.1 v.2.2)) ∧ mtq m M M'
theorem x_Ma_settle {x y : Int} {sg : Int} (hx : -5000000000000000000 ≤ x ∧ x ≤ 5000000000000000000) (hy : 1 ≤ y ∧ y ≤ 5000000000000000000) (hs : i32 sg) (h : MS M0 z m U Ab0 Be0 C0 M (t + 1) c) : Ci G y_Ma_settle (d + 1) [vr m, vl x, vl y, vi sg] M (cpx M0 z m U Ab0 Be0 C0 M t c (vst x y sg)) := by
  obtain ⟨ok, k0, h8, kA, kB, tA, tB, bA, bB, hb, ⟨mA, mB⟩, ne⟩ := h.pile
  refine k_Ma_settle ok ⟨by omega, by omega⟩ ⟨by omega, by omega⟩ hs ((x_Ma_commonDivisor ⟨by omega, by omega⟩ ⟨by omega, by omega⟩ ok).mono (fun g M1 q => ?_))
  obtain ⟨e1, ⟨g1, g2⟩, eg⟩ := q
  subst e1
  have gx : g ∣ x := by rw [eg]; exact Int.gcd_dvd_left x y
  have gy : g ∣ y := by rw [eg]; exact Int.gcd_dvd_right x y
  have ev : vst x y sg = if 1000000000 ≤ x / g ∨ x / g ≤ -1000000000 ∨ 1000000000 ≤ y / g then (6, sg, 0) else (0, x / g, y / g) := by rw [eg]; rfl
  rw [ev]
  clear ev
  have tx := Int.tdiv_eq_ediv_of_dvd gx
  have ty := Int.tdiv_eq_ediv_of_dvd gy
  have dx := m_tdivB (x := x) (z := g) (by omega)
  have dy := m_tdivB (x := y) (z := g) (by omega)
  have dy0 : 1 ≤ Int.tdiv y g := by
    rw [Int.tdiv_eq_ediv_of_nonneg (by omega)]
    exact (Int.le_ediv_iff_mul_le (by omega)).mpr (by omega)
  rw [← tx, ← ty]
  clear eg gx gy tx ty
  have c1 := (cmpz (Int.tdiv x g) 1000000000).1
  have c2 := (cmpz (Int.tdiv x g) (-1000000000)).2.1
  have c3 := (cmpz (Int.tdiv y g) 1000000000).2.2.1
  refine ⟨⟨by omega, by omega⟩, ok, by omega, by omega, ⟨by omega, by omega⟩, fun _ _ => ⟨by omega, by omega⟩, fun qq => ⟨k0, (x_Ma_stop (i32s (by omega) (by omega)) hs h).mono (fun r M' q => ?_)⟩, fun q => ?_⟩
  · obtain ⟨e, q1, q2, q3, q4⟩ := q
    rw [e, if_pos (by rw [c1, c2, c3] at qq; omega)]
    exact ⟨i32s (by omega) (by omega), q1.pile.1, Or.inl rfl, Or.inl ⟨rfl, by simp, q3, q4, _, q1⟩, q2⟩
  · have u1 : Int.tdiv x g < 1000000000 ∧ -1000000000 < Int.tdiv x g ∧ Int.tdiv y g < 1000000000 := by
      rw [c1, c2, c3] at q
      clear c1 c2 c3
      omega
    clear q c1 c2 c3
    rw [if_neg (by omega)]
    have e8 : (mI M1 m 8 - 1) = (t : Int) := by omega
    rw [e8, Int.toNat_natCast]
    refine ⟨k0, kA, by omega, ⟨by omega, by omega⟩, fun M23 e23 => ?_⟩
    have f23 : FI (fun b => b = mR M1 m 6) M1 M23 := by rw [e23]; exact FI.ui rfl
    have e8' : (mI M23 m 8 - 1) = (t : Int) := by rw [f23.2.2.2.2.2.2 m mA]; exact e8
    rw [e8', Int.toNat_natCast]
    refine ⟨by rw [f23.1, f23.2.2.1]; exact kB, by rw [f23.2.1, f23.2.2.1]; omega, ⟨by omega, by omega⟩, fun M28 e28 => ?_⟩
    have hv := ms_val h (j := t) (by omega) ⟨by omega, by omega⟩ ⟨dy0, u1.2.2⟩ e23 e28
    have pv := pl_val ⟨mA, mB⟩ ne e23 e28
    exact ⟨Or.inr ⟨rfl, rfl, hv.1, pv.1, pv.2⟩, mtq.val h e23 e28⟩
/-- how two numbers stand to each other: the class's answer for an order o -/
def rlv (o r : Int) (a b e f : Int) : vrs := if o = 15 ∨ o = 16 then (if (0 < r ↔ o = 15) then (0, e, f) else (0, a, b)) else if (o = 24 ∧ r = 0) ∨ (o = 19 ∧ r ≠ 0) ∨ (o = 22 ∧ r < 0) ∨ (o = 20 ∧ r ≤ 0) ∨ (o = 23 ∧ 0 < r) ∨ (o ≠ 24 ∧ o ≠ 19 ∧ o ≠ 22 ∧ o ≠ 20 ∧ o ≠ 23 ∧ 0 ≤ r) then (0, 1, 1) else (0, 0, 1)
theorem x_Ma_relate {o x a b e f : Int} (io : i32 o) (ix : i32 x) (h : MS M0 z m U Ab0 Be0 C0 M (t + 1) c) (hA : (t : Int) + 1 < mN M (mR M m 6)) (hB : (t : Int) + 1 < mN M (mR M m 7)) (hv : 1 ≤ mI M (mR M m 7) (t + 1) ∧ mI M (mR M m 7) (t + 1) < 1000000000) (h1 : ptq M m t a b) (h2 : ptq M m (t + 1) e f) : Ci G y_Ma_relate d [vr m, vi o, vi x] M (fun r M' => r = 1 ∧ (rlv o x a b e f).1 = 0 ∧ MS M0 z m U Ab0 Be0 C0 M' (t + 1) c ∧ mtq m M M' ∧ plq M M' m t ∧ ptq M' m t (rlv o x a b e f).2.1 (rlv o x a b e f).2.2) := by
  obtain ⟨ok, k0, h8, kA, kB, tA, tB, bA, bB, hb, ⟨mA, mB⟩, ne⟩ := h.pile
  have q1 : Int.toNat (mI M m 8 - 1) = t := by omega
  have q2 : Int.toNat (mI M m 8) = t + 1 := by omega
  refine k_Ma_relate ok io ix ⟨fun o1 v7 e7 v13 e13 => ⟨fun ey => ?_, fun ny => k_Ma_relate_75 ok ?_⟩, fun o1 v50 e50 => ⟨k0, fun v57 e57 => ?_⟩⟩
  · have er : rlv o x a b e f = (0, e, f) := by
      unfold rlv
      rw [if_pos o1, if_pos]
      rw [e7, e13] at ey
      by_cases u : x ≤ 0 <;> by_cases w : o = 15 <;> simp [u, w] at ey ⊢ <;> omega
    rw [er, q1, q2]
    refine ⟨k0, kA, by omega, by omega, fun M24 e24 => ?_⟩
    have f24 : FI (fun b => b = mR M m 6) M M24 := by rw [e24]; exact FI.ui rfl
    have e8 : mI M24 m 8 = mI M m 8 := by rw [f24.2.2.2.2.2.2 m mA]
    rw [e8, q1, q2]
    refine ⟨by rw [f24.1, f24.2.2.1]; exact kB, by rw [f24.2.1, f24.2.2.1]; omega, by rw [f24.2.1, f24.2.2.1]; omega, fun M29 e29 => ?_⟩
    have eB : mI M24 (mR M24 m 7) (t + 1) = mI M (mR M m 7) (t + 1) := by rw [f24.2.2.1, f24.2.2.2.2.2.2 _ (fun u => ne u.symm)]
    have w := ms_val h (j := t) (by omega) (ok _ _).1 (by rw [eB]; exact hv) e24 e29
    have pv := pl_val ⟨mA, mB⟩ ne e24 e29
    rw [eB, h2.1, h2.2] at pv
    exact k_Ma_relate_75 w.1.pile.1 ⟨rfl, rfl, w.1, mtq.val h e24 e29, pv.1, pv.2⟩
  · have er : rlv o x a b e f = (0, a, b) := by
      unfold rlv
      rw [if_pos o1, if_neg]
      rw [e7, e13] at ny
      by_cases u : x ≤ 0 <;> by_cases w : o = 15 <;> simp [u, w] at ny ⊢ <;> omega
    rw [er]
    exact ⟨rfl, rfl, h, mtq.refl, plq.refl, h1⟩
  · have er : rlv o x a b e f = (0, v57, 1) := by
      unfold rlv
      rw [if_neg o1]
      rw [e57, e50]
      by_cases y : (o = 24 ∧ x = 0) ∨ (o = 19 ∧ x ≠ 0) ∨ (o = 22 ∧ x < 0) ∨ (o = 20 ∧ x ≤ 0) ∨ (o = 23 ∧ 0 < x) ∨ (o ≠ 24 ∧ o ≠ 19 ∧ o ≠ 22 ∧ o ≠ 20 ∧ o ≠ 23 ∧ 0 ≤ x)
      · rw [if_pos y, if_neg (by omega)]
      · rw [if_neg y, if_pos (by omega)]
    rw [er, q1]
    refine ⟨kA, by omega, fun M64 e64 => ?_⟩
    have f64 : FI (fun b => b = mR M m 6) M M64 := by rw [e64]; exact FI.ui rfl
    have e8 : mI M64 m 8 = mI M m 8 := by rw [f64.2.2.2.2.2.2 m mA]
    rw [e8, q1]
    refine ⟨by rw [f64.1, f64.2.2.1]; exact kB, by rw [f64.2.1, f64.2.2.1]; omega, fun M68 e68 => ?_⟩
    have i57 : i32 v57 := by rw [e57]; split <;> exact i32s (by omega) (by omega)
    have w := ms_val h (j := t) (by omega) i57 ⟨by omega, by omega⟩ e64 e68
    have pv := pl_val ⟨mA, mB⟩ ne e64 e68
    exact ⟨rfl, rfl, w.1, mtq.val h e64 e68, pv.1, pv.2⟩
end MAX
end
end
