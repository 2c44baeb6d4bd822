/-! The reference: the words of the text. -/
/-- a word: kind, place, end; T letters in all -/
def wok (M : mM) (a : Nat) (k p e : Int) : Prop := (0 ≤ k ∧ k ≤ 39) ∧ (0 ≤ p ∧ p ≤ e ∧ e ≤ ln M (mR M a 2)) ∧ (1 ≤ k → p < e) ∧ (k = 2 → e ≤ p + 9 ∧ ∀ j : Nat, p ≤ j → (j : Int) < e → 48 ≤ nt M (mR M a 2) j ∧ nt M (mR M a 2) j ≤ 57) ∧ (k = 1 → e ≤ p + 40)
abbrev wP (a : Nat) : Nat → Prop := fun x => x = a + 5 ∨ x = a + 7 ∨ x = a + 9
theorem wP_in {a q : Nat} (h : wP a q) : q ∈ nums a := by
  rcases h with h | h | h <;> rw [h]
  · exact nums_o (by decide)
  · exact nums_o (by decide)
  · exact nums_o (by decide)
section WO
variable {G : mG} {d a : Nat} {M : mM}
/-- c words -/
def wds (M : mM) (a c : Nat) : Prop := ln M (a + 5) = c ∧ ln M (a + 7) = c ∧ ln M (a + 9) = c
theorem s_MM_word0 {k p e : Int} {c : Nat} (hk : i32 k) (hp : i32 p) (he : i32 e) (hO : mOk M) (h : Wd M a) (hc : wds M a c) (hc5 : c ≤ 20000) : Cv G y_MM_word0 (d + 1) [vr a, vi k, vi p, vi e] M (fun M' => Mv (wP a) (fun _ => False) M a M' ∧ wds M' a (c + 1) ∧ (∀ j, j < c → nt M' (a + 5) j = nt M (a + 5) j ∧ nt M' (a + 7) j = nt M (a + 7) j ∧ nt M' (a + 9) j = nt M (a + 9) j) ∧ nt M' (a + 5) c = k ∧ nt M' (a + 7) c = p ∧ nt M' (a + 9) c = e) := by
  obtain ⟨c1, c2, c3⟩ := hc
  have i5 : a + 5 ∈ nums a := nums_o (by decide)
  have i7 : a + 7 ∈ nums a := nums_o (by decide)
  have i9 : a + 9 ∈ nums a := nums_o (by decide)
  have hwl : ∀ (M2 : mM), Wd M2 a → ∀ q, wP a q → q < mZ M2 := fun M2 w q hq => w.lt (wP_in hq)
  refine k_MM_word0 hO hk hp he ?_
  rw [h.1.2.2.1.1]
  refine ⟨h.1.1, (h.nu i5).1, (s_MN_add hk hO (h.nu i5) (by omega)).mono (fun M1 t1 => ?_)⟩
  have m1 := mv_add h i5 t1
  have w1 := m1.2.1
  have s17 := m1.2.2.2.2 (a + 7) i7 (by omega)
  have s19 := m1.2.2.2.2 (a + 9) i9 (by omega)
  obtain ⟨o1, -, -, l1, b1, v1, -⟩ := t1
  rw [w1.1.2.2.1.2.1]
  refine ⟨o1, w1.1.1, (w1.nu i7).1, (s_MN_add hp o1 (w1.nu i7) (by rw [s17.1]; omega)).mono (fun M2 t2 => ?_)⟩
  have m2 := mv_add w1 i7 t2
  have w2 := m2.2.1
  have s25 := m2.2.2.2.2 (a + 5) i5 (by omega)
  have s29 := m2.2.2.2.2 (a + 9) i9 (by omega)
  obtain ⟨o2, -, -, l2, b2, v2, -⟩ := t2
  rw [w2.1.2.2.1.2.2.1]
  refine ⟨o2, w2.1.1, (w2.nu i9).1, (s_MN_add he o2 (w2.nu i9) (by rw [s29.1, s19.1]; omega)).mono (fun M3 t3 => ?_)⟩
  have m3 := mv_add w2 i9 t3
  have s35 := m3.2.2.2.2 (a + 5) i5 (by omega)
  have s37 := m3.2.2.2.2 (a + 7) i7 (by omega)
  obtain ⟨o3, -, -, l3, b3, v3, -⟩ := t3
  have e1 : (ln M (a + 5)).toNat = c := by omega
  have e2 : (ln M1 (a + 7)).toNat = c := by rw [s17.1]; omega
  have e3 : (ln M2 (a + 9)).toNat = c := by rw [s29.1, s19.1]; omega
  rw [e1] at v1
  rw [e2] at v2
  rw [e3] at v3
  refine ⟨o3, ((m1.mono (fun q w => Or.inl w) (fun x w => w) (hwl M h)).trans (m2.mono (fun q w => Or.inr (Or.inl w)) (fun x w => w) (hwl M1 w1))).trans (m3.mono (fun q w => Or.inr (Or.inr w)) (fun x w => w) (hwl M2 w2)), ⟨by rw [s35.1, s25.1]; omega, by rw [s37.1]; have := s17.1; omega, by have := s29.1; have := s19.1; omega⟩, fun j hj => ⟨?_, ?_, ?_⟩, ?_, ?_, v3⟩
  · rw [s35.2.1, s25.2.1, b1 j (by omega)]
  · rw [s37.2.1, b2 j (by rw [s17.1]; omega), s17.2.1]
  · rw [b3 j (by rw [s29.1, s19.1]; omega), s29.2.1, s19.2.1]
  · rw [s35.2.1, s25.2.1, v1]
  · rw [s37.2.1, v2]
/-- the text stays -/
theorem Mv.text {M1 : mM} (h : Mv (wP a) (fun _ => False) M a M1) (hw : Wd M a) : mR M1 a = mR M a ∧ sameN M M1 (mR M a 2) := by
  refine ⟨h.rfl_a hw (fun q w => wP_in w), h.2.2.2.2 _ hw.tape.2.1 (fun w => ?_)⟩
  rcases hw.1.2.1 with ⟨e1, e2⟩ | ⟨e1, e2⟩ <;> rw [e2] at w <;> omega
theorem wok.same {M1 : mM} {k p e : Int} (h : wok M a k p e) (hr : mR M1 a = mR M a) (hs : sameN M M1 (mR M a 2)) : wok M1 a k p e := by
  unfold wok at h ⊢
  rw [hr, hs.1]
  obtain ⟨h1, h2, h3, h4, h5⟩ := h
  exact ⟨h1, h2, h3, fun w => ⟨(h4 w).1, fun j a1 a2 => by rw [hs.2.1]; exact (h4 w).2 j a1 a2⟩, h5⟩
/-- the words so far are sound, and none is wrong or the last -/
def wgd (M : mM) (a c : Nat) : Prop := ∀ j, j < c → wok M a (nt M (a + 5) j) (nt M (a + 7) j) (nt M (a + 9) j) ∧ 1 ≤ nt M (a + 5) j ∧ nt M (a + 5) j ≠ 39
/-- after cutting: the last word is the end, or wrong -/
def cutQ (M : mM) (a : Nat) (M' : mM) : Prop := Mv (wP a) (fun _ => False) M a M' ∧ ∃ c, wds M' a (c + 1) ∧ (c : Int) ≤ ln M (mR M a 2) ∧ wgd M' a c ∧ wok M' a (nt M' (a + 5) c) (nt M' (a + 7) c) (nt M' (a + 9) c) ∧ (nt M' (a + 5) c = 0 ∨ nt M' (a + 5) c = 39)
def cuI (M : mM) (a c : Nat) (M2 : mM) : Prop := Mv (wP a) (fun _ => False) M a M2 ∧ wds M2 a c ∧ wgd M2 a c
/-- kinds of words told by their letters -/
def WKs (G : mG) : Prop := ∀ (d a f e : Nat) (M : mM), mOk M → Wd M a → f < e → (e : Int) ≤ ln M (mR M a 2) → e ≤ f + 40 → ln M (mR M a 2) ≤ 16384 → Ci G y_MM_wordKind (d + 5) [vr a, vi f, vi e] M (fun x M' => M' = M ∧ 1 ≤ x ∧ x ≤ 15 ∧ x ≠ 2)
theorem s_MM_cut (hWK : WKs G) (hO : mOk M) (h : Wd M a) (hT : ln M (mR M a 2) ≤ 16384) : Cv G y_MM_cut (d + 6) [vr a] M (cutQ M a) := by
  have i5 : a + 5 ∈ nums a := nums_o (by decide)
  have i7 : a + 7 ∈ nums a := nums_o (by decide)
  have i9 : a + 9 ∈ nums a := nums_o (by decide)
  have hwl : ∀ (M2 : mM), Wd M2 a → ∀ q, wP a q → q < mZ M2 := fun M2 w q hq => w.lt (wP_in hq)
  have ht0 := h.t0
  refine k_MM_cut hO ?_
  rw [h.1.2.2.1.1]
  refine ⟨h.1.1, (h.nu i5).1, fun M1 e1 => ?_⟩
  obtain ⟨m1, l1, -⟩ := mv_set hO h i5 (v := 0) (by omega) (h.nu i5).2.2.2.1.1 e1
  have w1 := m1.2.1
  rw [w1.1.2.2.1.2.1]
  refine ⟨(w1.nu i7).1, fun M2 e2 => ?_⟩
  obtain ⟨m2, l2, -⟩ := mv_set m1.1 w1 i7 (v := 0) (by omega) (w1.nu i7).2.2.2.1.1 e2
  have w2 := m2.2.1
  rw [w2.1.2.2.1.2.2.1]
  refine ⟨(w2.nu i9).1, fun M3 e3 => ?_⟩
  obtain ⟨m3, l3, -⟩ := mv_set m2.1 w2 i9 (v := 0) (by omega) (w2.nu i9).2.2.2.1.1 e3
  have m03 := ((m1.mono (P' := wP a) (fun q w => Or.inl w) (fun x w => w) (hwl M h)).trans (m2.mono (fun q w => Or.inr (Or.inl w)) (fun x w => w) (hwl M1 w1))).trans (m3.mono (fun q w => Or.inr (Or.inr w)) (fun x w => w) (hwl M2 w2))
  have w3 := m3.2.1
  have t3 := m03.text h
  have c3 : wds M3 a 0 := ⟨by rw [(m3.2.2.2.2 _ i5 (by omega)).1, (m2.2.2.2.2 _ i5 (by omega)).1, l1]; rfl, by rw [(m3.2.2.2.2 _ i7 (by omega)).1, l2]; rfl, by rw [l3]; rfl⟩
  refine (s_MM_skip (d := d + 3) (i := 0) (by omega) m3.1 w3 (by rw [t3.1, t3.2.1]; exact hT)).mono (fun x M4 h4 => ?_)
  obtain ⟨e4, j, hx, -, hj⟩ := h4
  subst e4 hx
  rw [t3.1, t3.2.1] at hj
  refine ⟨⟨by omega, by omega⟩, m3.1, ?_⟩
  suffices H : ∀ (t i c : Nat) (M5 : mM), (ln M (mR M a 2)).toNat + 1 - i ≤ t → (i : Int) ≤ ln M (mR M a 2) → c ≤ i → cuI M a c M5 → h_MM_cut_32 G (d + 5) a i 1 M5 (cutQ M a) from
    H ((ln M (mR M a 2)).toNat + 1) j 0 M4 (by omega) (by omega) (by omega) ⟨m03, c3, fun q hq => by omega⟩
  clear hj c3 t3 w3 m03 l3 m3 e3
  intro t
  induction t with
  | zero => intro i c M5 ht hi; omega
  | succ t ih =>
    intro i c M5 ht hi hci h5
    obtain ⟨m5, c5, g5⟩ := h5
    have w5 := m5.2.1
    have t5 := m5.text h
    have o5 := m5.1
    have el : mI M5 (mR M5 a 2) 1 = ln M (mR M a 2) := by rw [t5.1]; exact t5.2.1
    have hT5 : ln M5 (mR M5 a 2) = ln M (mR M a 2) := el
    have hN5 := (w5.nu w5.tape.2.1).1
    -- a word is put down
    have put : ∀ (k : Int) (e : Nat), 1 ≤ k → k ≤ 39 → i < e → (e : Int) ≤ ln M (mR M a 2) → (k = 2 → e ≤ i + 9 ∧ ∀ j : Nat, i ≤ j → j < e → 48 ≤ nt M (mR M a 2) j ∧ nt M (mR M a 2) j ≤ 57) → (k = 1 → e ≤ i + 40) → Cv G y_MM_word0 (d + 5) [vr a, vi k, vi i, vi e] M5 (fun M6 => mOk M6 ∧ ∀ v : Int, v = (if k = 39 then 0 else 1) → mK M6 a = 14 ∧ Ci G y_MM_skip (d + 5) [vr a, vi e] M6 (fun x M7 => i32 x ∧ mOk M7 ∧ h_MM_cut_32 G (d + 5) a x v M7 (cutQ M a))) := by
      intro k e k1 k2 hie heT hk2 hk1
      refine (s_MM_word0 (d := d + 4) ⟨by omega, by omega⟩ ⟨by omega, by omega⟩ ⟨by omega, by omega⟩ o5 w5 c5 (by omega)).mono (fun M6 h6 => ?_)
      obtain ⟨m6, c6, b6, v1, v2, v3⟩ := h6
      have m06 := m5.trans m6
      have w6 := m6.2.1
      have t6 := m06.text h
      have t56 := m6.text w5
      have hT6 : ln M6 (mR M6 a 2) = ln M (mR M a 2) := by rw [t6.1]; exact t6.2.1
      have hnew : wok M6 a (nt M6 (a + 5) c) (nt M6 (a + 7) c) (nt M6 (a + 9) c) := by
        rw [v1, v2, v3]
        refine ⟨⟨by omega, k2⟩, ⟨by omega, by omega, by omega⟩, fun _ => by omega, fun w => ⟨by have := (hk2 w).1; omega, fun j a1 a2 => ?_⟩, fun w => by have := hk1 w; omega⟩
        rw [t6.1, t6.2.2.1]
        exact (hk2 w).2 j (by omega) (by omega)
      have hold : wgd M6 a c := fun j hj => by
        have b := b6 j hj
        rw [b.1, b.2.1, b.2.2]
        exact ⟨(g5 j hj).1.same t56.1 t56.2, (g5 j hj).2⟩
      refine ⟨m6.1, fun v hv => ⟨w6.1.1, (s_MM_skip (d := d + 3) (i := e) (by omega) m6.1 w6 (by omega)).mono (fun x M7 h7 => ?_)⟩⟩
      obtain ⟨e7, j, hx, hj1, hj2⟩ := h7
      subst e7 hx
      refine ⟨⟨by omega, by omega⟩, m6.1, ?_⟩
      by_cases z : k = 39
      · rw [if_pos z] at hv
        subst hv
        refine k_MM_cut_32 m6.1 ⟨by omega, by omega⟩ ⟨by omega, by omega⟩ ⟨fun w => absurd rfl w, fun _ => ⟨fun _ => k_MM_cut_263 m6.1 ⟨m06, c, c6, by omega, hold, hnew, Or.inr (by rw [v1]; exact z)⟩, fun w => absurd rfl w⟩, fun w => absurd (Or.inl rfl) w⟩
      · rw [if_neg z] at hv
        subst hv
        refine ih j (c + 1) M7 (by omega) (by omega) (by omega) ⟨m06, c6, fun q hq => ?_⟩
        by_cases y : q = c
        · rw [y]
          exact ⟨hnew, by rw [v1]; exact k1, by rw [v1]; exact z⟩
        · exact hold q (by omega)
    refine k_MM_cut_32 o5 ⟨by omega, by omega⟩ ⟨by omega, by omega⟩ ?_
    rw [el]
    refine ⟨fun _ => ⟨w5.1.1, hN5⟩, fun w => ⟨fun w1 => by omega, fun _ => ⟨w5.1.1, hN5, (s_MM_word0 (d := d + 4) (k := 0) ⟨by omega, by omega⟩ ⟨by omega, by omega⟩ ⟨by omega, by omega⟩ o5 w5 c5 (by omega)).mono (fun M6 h6 => ?_)⟩⟩, fun w => ?_⟩
    · obtain ⟨m6, c6, b6, v1, v2, v3⟩ := h6
      have m06 := m5.trans m6
      have t56 := m6.text w5
      have hT6 : ln M6 (mR M6 a 2) = ln M (mR M a 2) := by rw [t56.1, t56.2.1]; exact hT5
      refine ⟨m6.1, k_MM_cut_263 m6.1 ⟨m06, c, c6, by omega, fun j hj => ?_, ?_, Or.inl v1⟩⟩
      · have b := b6 j hj
        rw [b.1, b.2.1, b.2.2]
        exact ⟨(g5 j hj).1.same t56.1 t56.2, (g5 j hj).2⟩
      · rw [v1, v2, v3]
        exact ⟨⟨by omega, by omega⟩, ⟨by omega, by omega, by omega⟩, fun w => by omega, fun w => by omega, fun w => by omega⟩
    · have hiT : (i : Int) < ln M (mR M a 2) := by omega
      have hlt : ∀ j, lt M5 a j = lt M a j := fun j => by unfold lt; rw [t5.1, t5.2.1, t5.2.2.1]
      refine ⟨w5.1.1, (s_MM_letter (d := d + 4) (by omega) o5 w5).mono (fun x M6 h6 => ?_)⟩
      obtain ⟨e6, hx⟩ := h6
      subst e6
      refine ⟨by rw [hx]; exact lt_i32 o5, o5, k_MM_isLetter o5 (by rw [hx]; exact lt_i32 o5) (fun v hv => ?_)⟩
      refine ⟨⟨by split at hv <;> omega, by split at hv <;> omega⟩, o5, fun v0 => ⟨w5.1.1, (s_MM_letter (d := d + 4) (by omega) o5 w5).mono (fun y M7 h7 => ?_)⟩, fun v0 => ?_⟩
      · obtain ⟨e7, hy⟩ := h7
        subst e7
        refine ⟨by rw [hy]; exact lt_i32 o5, o5, k_MM_isDigit o5 (by rw [hy]; exact lt_i32 o5) (fun u hu => ?_)⟩
        refine ⟨⟨by split at hu <;> omega, by split at hu <;> omega⟩, o5, fun u0 => ⟨w5.1.1, (s_MM_signKind (d := d + 3) (by omega) o5 w5).mono (fun z M8 h8 => ?_)⟩, fun u0 => ?_⟩
        · obtain ⟨e8, z1, z2, z3⟩ := h8
          subst e8
          rw [hT5] at z3
          refine ⟨⟨by omega, by omega⟩, o5, fun r hr q hq => ⟨w5.1.1, ?_⟩⟩
          have hq12 : q = 1 ∨ q = 2 := by split at hq <;> omega
          have hq2 : q = 2 → z ≤ 20 := fun w => by
            rw [w] at hq
            split at hr <;> split at hq <;> omega
          have ep : (i : Int) + q = ((i + q.toNat : Nat) : Int) := by omega
          rw [ep]
          exact put z (i + q.toNat) (by omega) (by omega) (by omega) (by
            rcases hq12 with w | w
            · omega
            · have := z3 (hq2 w)
              omega) (fun w => by omega) (fun w => by omega)
        · -- a number
          have hdig : 48 ≤ lt M a i ∧ lt M a i ≤ 57 := by
            rw [← hlt, ← hy]
            split at hu <;> omega
          suffices H2 : ∀ (r l : Nat), r = (ln M (mR M a 2)).toNat - l → i ≤ l → (l : Int) ≤ ln M (mR M a 2) → (∀ j, i ≤ j → j < l → 48 ≤ nt M (mR M a 2) j ∧ nt M (mR M a 2) j ≤ 57) → h_MM_cut_133 G (d + 5) a i l M7 (cutQ M a) from H2 _ i rfl (by omega) (by omega) (fun j a1 a2 => by omega)
          intro r
          induction r with
          | zero =>
            intro l hr hl hlT hdg
            refine k_MM_cut_133 o5 ⟨by omega, by omega⟩ ⟨by omega, by omega⟩ ⟨w5.1.1, (s_MM_letter (d := d + 4) (by omega) o5 w5).mono (fun s M8 h8 => ?_)⟩
            obtain ⟨e8, hs⟩ := h8
            subst e8
            have hs0 : s = 0 := by rw [hs, hlt]; unfold lt; rw [if_neg (by omega)]
            refine ⟨by rw [hs]; exact lt_i32 o5, o5, k_MM_isDigit o5 (by rw [hs]; exact lt_i32 o5) (fun u' hu' => ?_)⟩
            rw [if_pos (by omega)] at hu'
            refine ⟨⟨by omega, by omega⟩, o5, fun _ => ⟨⟨by omega, by omega⟩, fun k hk => ⟨w5.1.1, put k l (by split at hk <;> omega) (by split at hk <;> omega) (by
              refine Nat.lt_of_le_of_ne hl (fun w => ?_)
              subst w
              unfold lt at hdig
              rw [if_neg (by omega)] at hdig
              omega) (by omega) (fun w => ⟨by split at hk <;> omega, hdg⟩) (fun w => by split at hk <;> omega)⟩⟩, fun w => absurd hu' w⟩
          | succ r ihr =>
            intro l hr hl hlT hdg
            refine k_MM_cut_133 o5 ⟨by omega, by omega⟩ ⟨by omega, by omega⟩ ⟨w5.1.1, (s_MM_letter (d := d + 4) (by omega) o5 w5).mono (fun s M8 h8 => ?_)⟩
            obtain ⟨e8, hs⟩ := h8
            subst e8
            have hs1 : s = nt M (mR M a 2) l := by rw [hs, hlt]; unfold lt; rw [if_pos (by omega)]
            refine ⟨by rw [hs]; exact lt_i32 o5, o5, k_MM_isDigit o5 (by rw [hs]; exact lt_i32 o5) (fun u' hu' => ?_)⟩
            refine ⟨⟨by split at hu' <;> omega, by split at hu' <;> omega⟩, o5, fun u0' => ⟨⟨by omega, by omega⟩, fun k hk => ⟨w5.1.1, put k l (by split at hk <;> omega) (by split at hk <;> omega) (by
              refine Nat.lt_of_le_of_ne hl (fun w => ?_)
              subst w
              have : s = lt M a i := by rw [hs, hlt]
              split at hu' <;> omega) (by omega) (fun w => ⟨by split at hk <;> omega, hdg⟩) (fun w => by split at hk <;> omega)⟩⟩, fun u0' => ?_⟩
            exact ihr (l + 1) (by omega) (by omega) (by omega) (fun j a1 a2 => by
              by_cases z : j = l
              · rw [z, ← hs1]
                split at hu' <;> omega
              · exact hdg j a1 (by omega))
      · -- a name
        have hlet : isL (lt M a i) := by
          rw [← hlt, ← hx]
          unfold isL
          split at hv <;> omega
        suffices H2 : ∀ (r l : Nat), r = (ln M (mR M a 2)).toNat - l → i ≤ l → (l : Int) ≤ ln M (mR M a 2) → h_MM_cut_60 G (d + 5) a i l M6 (cutQ M a) from H2 _ i rfl (by omega) (by omega)
        have h117 : ∀ (k : Int) (l : Nat), 1 ≤ k → k ≤ 39 → i < l → (l : Int) ≤ ln M (mR M a 2) → k ≠ 2 → (k = 1 → l ≤ i + 40) → h_MM_cut_117 G (d + 5) a i l k M6 (cutQ M a) := fun k l k1 k2 hl hlT hk2 hk1 =>
          k_MM_cut_117 o5 ⟨by omega, by omega⟩ ⟨by omega, by omega⟩ ⟨by omega, by omega⟩ ⟨w5.1.1, put k l k1 k2 hl hlT (fun w => absurd w hk2) hk1⟩
        have hfin : ∀ l : Nat, i ≤ l → (l : Int) ≤ ln M (mR M a 2) → (¬ isL (lt M a l)) → (i32 ((l : Int) - i) ∧ (((l : Int) - i ≤ 40) → (mK M6 a = 14 ∧ Ci G y_MM_wordKind (d + 5) [vr a, vi i, vi l] M6 (fun x M' => i32 x ∧ mOk M' ∧ h_MM_cut_117 G (d + 5) a i l x M' (cutQ M a)))) ∧ (¬ ((l : Int) - i ≤ 40) → h_MM_cut_117 G (d + 5) a i l 39 M6 (cutQ M a))) := fun l hl hlT hnl => by
          have hil : i < l := Nat.lt_of_le_of_ne hl (fun w => by subst w; exact hnl hlet)
          refine ⟨⟨by omega, by omega⟩, fun w => ⟨w5.1.1, (hWK d a i l M6 o5 w5 hil (by omega) (by omega) (by omega)).mono (fun k M7 h7 => ?_)⟩, fun w => h117 39 l (by omega) (by omega) hil hlT (by omega) (fun w => by omega)⟩
          obtain ⟨e7, k1, k2, k3⟩ := h7
          subst e7
          exact ⟨⟨by omega, by omega⟩, o5, h117 k l k1 (by omega) hil hlT k3 (fun _ => by omega)⟩
        intro r
        induction r with
        | zero =>
          intro l hr hl hlT
          have hl0 : lt M a l = 0 := by unfold lt; rw [if_neg (by omega)]
          refine k_MM_cut_60 o5 ⟨by omega, by omega⟩ ⟨by omega, by omega⟩ ⟨w5.1.1, (s_MM_letter (d := d + 4) (by omega) o5 w5).mono (fun s M7 h7 => ?_)⟩
          obtain ⟨e7, hs⟩ := h7
          subst e7
          rw [hlt, hl0] at hs
          refine ⟨⟨by omega, by omega⟩, o5, k_MM_isLetter o5 ⟨by omega, by omega⟩ (fun u hu => ?_)⟩
          rw [if_pos (by omega)] at hu
          refine ⟨⟨by omega, by omega⟩, o5, fun _ => ⟨w5.1.1, (s_MM_letter (d := d + 4) (by omega) o5 w5).mono (fun s' M8 h8 => ?_)⟩, fun w => absurd hu w⟩
          obtain ⟨e8, hs'⟩ := h8
          subst e8
          rw [hlt, hl0] at hs'
          refine ⟨⟨by omega, by omega⟩, o5, k_MM_isDigit o5 ⟨by omega, by omega⟩ (fun u' hu' => ?_)⟩
          rw [if_pos (by omega)] at hu'
          refine ⟨⟨by omega, by omega⟩, o5, fun _ => ⟨w5.1.1, (s_MM_letter (d := d + 4) (by omega) o5 w5).mono (fun s'' M9 h9 => ?_)⟩, fun w => absurd hu' w⟩
          obtain ⟨e9, hs''⟩ := h9
          subst e9
          rw [hlt, hl0] at hs''
          exact ⟨⟨by omega, by omega⟩, o5, fun w => by omega, fun _ => hfin l hl hlT (by rw [hl0]; unfold isL; omega)⟩
        | succ r ihr =>
          intro l hr hl hlT
          have nx := ihr (l + 1) (by omega) (by omega) (by omega)
          refine k_MM_cut_60 o5 ⟨by omega, by omega⟩ ⟨by omega, by omega⟩ ⟨w5.1.1, (s_MM_letter (d := d + 4) (by omega) o5 w5).mono (fun s M7 h7 => ?_)⟩
          obtain ⟨e7, hs⟩ := h7
          subst e7
          refine ⟨by rw [hs]; exact lt_i32 o5, o5, k_MM_isLetter o5 (by rw [hs]; exact lt_i32 o5) (fun u hu => ?_)⟩
          have hnl : u = 0 → ¬ isL (lt M a l) := fun w => by
            rw [← hlt, ← hs]
            unfold isL
            split at hu <;> omega
          refine ⟨⟨by split at hu <;> omega, by split at hu <;> omega⟩, o5, fun u0 => ⟨w5.1.1, (s_MM_letter (d := d + 4) (by omega) o5 w5).mono (fun s' M8 h8 => ?_)⟩, fun _ => nx⟩
          obtain ⟨e8, hs'⟩ := h8
          subst e8
          refine ⟨by rw [hs']; exact lt_i32 o5, o5, k_MM_isDigit o5 (by rw [hs']; exact lt_i32 o5) (fun u' hu' => ?_)⟩
          refine ⟨⟨by split at hu' <;> omega, by split at hu' <;> omega⟩, o5, fun _ => ⟨w5.1.1, (s_MM_letter (d := d + 4) (by omega) o5 w5).mono (fun s'' M9 h9 => ?_)⟩, fun _ => nx⟩
          obtain ⟨e9, hs''⟩ := h9
          subst e9
          exact ⟨by rw [hs'']; exact lt_i32 o5, o5, fun _ => nx, fun _ => hfin l hl hlT (hnl u0)⟩
end WO
