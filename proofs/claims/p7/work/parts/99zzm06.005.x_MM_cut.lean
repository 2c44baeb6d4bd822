section
section
variable {G : mG} {d a : Nat} {M : mM} {kw : (Nat → Int) → Nat → Nat → Int}
theorem x_MM_cut (hWK : WKx G kw) (hO : mOk M) (h : Wd M a) (hT : ln M (mR M a 2) ≤ 16384) : Cv G y_MM_cut (d + 6) [vr a] M (cutX kw M a) := by
  have i5 : a + 5 ∈ nums a := nums_o (by decide)
  have i7 : a + 7 ∈ nums a := nums_o (by decide)
  have i9 : a + 9 ∈ nums a := nums_o (by decide)
  have hwl : ∀ (M2 : mM), Wd M2 a → ∀ q, wP a q → q < mZ M2 := fun M2 w q hq => w.lt (wP_in hq)
  have ht0 := h.t0
  refine k_MM_cut hO ?_
  rw [h.1.2.2.1.1]
  refine ⟨h.1.1, (h.nu i5).1, fun M1 e1 => ?_⟩
  obtain ⟨m1, l1, -⟩ := mv_set hO h i5 (v := 0) (by omega) (h.nu i5).2.2.2.1.1 e1
  have w1 := m1.2.1
  rw [w1.1.2.2.1.2.1]
  refine ⟨(w1.nu i7).1, fun M2 e2 => ?_⟩
  obtain ⟨m2, l2, -⟩ := mv_set m1.1 w1 i7 (v := 0) (by omega) (w1.nu i7).2.2.2.1.1 e2
  have w2 := m2.2.1
  rw [w2.1.2.2.1.2.2.1]
  refine ⟨(w2.nu i9).1, fun M3 e3 => ?_⟩
  obtain ⟨m3, l3, -⟩ := mv_set m2.1 w2 i9 (v := 0) (by omega) (w2.nu i9).2.2.2.1.1 e3
  have m03 := ((m1.mono (P' := wP a) (fun q w => Or.inl w) (fun x w => w) (hwl M h)).trans (m2.mono (fun q w => Or.inr (Or.inl w)) (fun x w => w) (hwl M1 w1))).trans (m3.mono (fun q w => Or.inr (Or.inr w)) (fun x w => w) (hwl M2 w2))
  have w3 := m3.2.1
  have t3 := m03.text h
  have c3 : wds M3 a 0 := ⟨by rw [(m3.2.2.2.2 _ i5 (by omega)).1, (m2.2.2.2.2 _ i5 (by omega)).1, l1]; rfl, by rw [(m3.2.2.2.2 _ i7 (by omega)).1, l2]; rfl, by rw [l3]; rfl⟩
  have eC3 : txc M3 a = txc M a := by funext q; unfold txc; rw [t3.1]; exact t3.2.2.1 q
  have eN3 : txn M3 a = txn M a := by unfold txn; rw [t3.1, t3.2.1]
  refine (x_MM_skip (d := d + 3) (i := 0) (by omega) m3.1 w3 (by rw [t3.1, t3.2.1]; exact hT) (by rw [t3.1, t3.2.1]; omega)).mono (fun x M4 h4 => ?_)
  obtain ⟨e4, hx⟩ := h4
  subst e4
  rw [eC3, eN3] at hx
  have hj := (skp_b (c := txc M a) (n := txn M a) (i := 0) (by omega)).2
  have ep : pwq (txc M a) (txn M a) 0 = skp (txc M a) (txn M a) 0 := rfl
  have en0 : ((txn M a : Nat) : Int) = ln M (mR M a 2) := by unfold txn; omega
  generalize skp (txc M a) (txn M a) 0 = j at *
  subst hx
  refine ⟨⟨by omega, by omega⟩, m3.1, ?_⟩
  suffices H : ∀ (t i c : Nat) (M5 : mM), (ln M (mR M a 2)).toNat + 1 - i ≤ t → (i : Int) ≤ ln M (mR M a 2) → c ≤ i → cuI M a c M5 → rwI kw (txc M a) (txn M a) a c i M5 → h_MM_cut_32 G (d + 5) a i 1 M5 (cutX kw M a) from
    H ((ln M (mR M a 2)).toNat + 1) j 0 M4 (by omega) (by omega) (by omega) ⟨m03, c3, fun q hq => by omega⟩ ⟨fun q hq => by omega, ep.symm⟩
  clear hj c3 t3 w3 m03 l3 m3 e3
  intro t
  induction t with
  | zero => intro i c M5 ht hi; omega
  | succ t ih =>
    intro i c M5 ht hi hci h5 hR
    obtain ⟨m5, c5, g5⟩ := h5
    have w5 := m5.2.1
    have t5 := m5.text h
    have o5 := m5.1
    have el : mI M5 (mR M5 a 2) 1 = ln M (mR M a 2) := by rw [t5.1]; exact t5.2.1
    have hT5 : ln M5 (mR M5 a 2) = ln M (mR M a 2) := el
    have hN5 := (w5.nu w5.tape.2.1).1
    have eC5 : txc M5 a = txc M a := by funext q; unfold txc; rw [t5.1]; exact t5.2.2.1 q
    have eN5 : txn M5 a = txn M a := by unfold txn; rw [t5.1, t5.2.1]
    -- a word is put down
    have put : ∀ (k : Int) (e : Nat), 1 ≤ k → k ≤ 39 → i < e → (e : Int) ≤ ln M (mR M a 2) → (k = 2 → e ≤ i + 9 ∧ ∀ j : Nat, i ≤ j → j < e → 48 ≤ nt M (mR M a 2) j ∧ nt M (mR M a 2) j ≤ 57) → (k = 1 → e ≤ i + 40) → k = wkq (kw (txc M a)) (txc M a) (txn M a) i → e = weq (txc M a) (txn M a) i → Cv G y_MM_word0 (d + 5) [vr a, vi k, vi i, vi e] M5 (fun M6 => mOk M6 ∧ ∀ v : Int, v = (if k = 39 then 0 else 1) → mK M6 a = 14 ∧ Ci G y_MM_skip (d + 5) [vr a, vi e] M6 (fun x M7 => i32 x ∧ mOk M7 ∧ h_MM_cut_32 G (d + 5) a x v M7 (cutX kw M a))) := by
      intro k e k1 k2 hie heT hk2 hk1 hwk hwe
      replace hk2 : Hid _ := hk2
      replace hk1 : Hid _ := hk1
      refine (s_MM_word0 (d := d + 4) ⟨by omega, by omega⟩ ⟨by omega, by omega⟩ ⟨by omega, by omega⟩ o5 w5 c5 (by omega)).mono (fun M6 h6 => ?_)
      obtain ⟨m6, c6, b6, v1, v2, v3⟩ := h6
      have m06 := m5.trans m6
      have w6 := m6.2.1
      have t6 := m06.text h
      have t56 := m6.text w5
      have hT6 : ln M6 (mR M6 a 2) = ln M (mR M a 2) := by rw [t6.1]; exact t6.2.1
      have hnew : wok M6 a (nt M6 (a + 5) c) (nt M6 (a + 7) c) (nt M6 (a + 9) c) := by
        rw [v1, v2, v3]
        refine ⟨⟨by omega, k2⟩, ⟨by omega, by omega, by omega⟩, fun _ => by omega, fun w => ⟨by have := (hk2 w).1; omega, fun j a1 a2 => ?_⟩, fun w => by have := hk1 w; omega⟩
        rw [t6.1, t6.2.2.1]
        exact (hk2 w).2 j (by omega) (by omega)
      have hold : wgd M6 a c := fun j hj => by
        have b := b6 j hj
        rw [b.1, b.2.1, b.2.2]
        exact ⟨(g5 j hj).1.same t56.1 t56.2, (g5 j hj).2⟩
      have eC6 : txc M6 a = txc M a := by funext q; unfold txc; rw [t6.1]; exact t6.2.2.1 q
      have eN6 : txn M6 a = txn M a := by unfold txn; rw [t6.1, t6.2.1]
      have hin : i < txn M a := by omega
      refine ⟨m6.1, fun v hv => ⟨w6.1.1, (x_MM_skip (d := d + 3) (i := e) (by omega) m6.1 w6 (by omega) (by omega)).mono (fun x M7 h7 => ?_)⟩⟩
      obtain ⟨e7, hx⟩ := h7
      subst e7
      rw [eC6, eN6] at hx
      have hjb := skp_b (c := txc M a) (n := txn M a) (i := e) (by omega)
      have hS : k ≠ 39 → rwI kw (txc M a) (txn M a) a (c + 1) (skp (txc M a) (txn M a) e) M7 := fun z => hR.step hin hwk z hwe b6 v1 v2 v3
      have hF : k = 39 → rwx kw (txc M a) (txn M a) a (c + 1) M7 := fun z => hR.fin1 hin (hwk.symm.trans z) b6 (v1.trans z) v2
      clear hwk hwe
      generalize skp (txc M a) (txn M a) e = j at *
      obtain ⟨hj1, hj2⟩ := hjb
      subst hx
      refine ⟨⟨by omega, by omega⟩, m6.1, ?_⟩
      by_cases z : k = 39
      · rw [if_pos z] at hv
        subst hv
        refine k_MM_cut_32 m6.1 ⟨by omega, by omega⟩ ⟨by omega, by omega⟩ ⟨fun w => absurd rfl w, fun _ => ⟨fun _ => k_MM_cut_263 m6.1 ⟨⟨m06, c, c6, by omega, hold, hnew, Or.inr (by rw [v1]; exact z)⟩, c + 1, by omega, c6, hF z⟩, fun w => absurd rfl w⟩, fun w => absurd (Or.inl rfl) w⟩
      · rw [if_neg z] at hv
        subst hv
        refine ih j (c + 1) M7 (by omega) (by omega) (by omega) ⟨m06, c6, fun q hq => ?_⟩ (hS z)
        by_cases y : q = c
        · rw [y]
          exact ⟨hnew, by rw [v1]; exact k1, by rw [v1]; exact z⟩
        · exact hold q (by omega)
    refine k_MM_cut_32 o5 ⟨by omega, by omega⟩ ⟨by omega, by omega⟩ ?_
    rw [el]
    refine ⟨fun _ => ⟨w5.1.1, hN5⟩, fun w => ⟨fun w1 => by omega, fun _ => ⟨w5.1.1, hN5, (s_MM_word0 (d := d + 4) (k := 0) ⟨by omega, by omega⟩ ⟨by omega, by omega⟩ ⟨by omega, by omega⟩ o5 w5 c5 (by omega)).mono (fun M6 h6 => ?_)⟩⟩, fun w => ?_⟩
    · obtain ⟨m6, c6, b6, v1, v2, v3⟩ := h6
      have m06 := m5.trans m6
      have t56 := m6.text w5
      have hT6 : ln M6 (mR M6 a 2) = ln M (mR M a 2) := by rw [t56.1, t56.2.1]; exact hT5
      refine ⟨m6.1, k_MM_cut_263 m6.1 ⟨⟨m06, c, c6, by omega, fun j hj => ?_, ?_, Or.inl v1⟩, c + 1, by omega, c6, hR.fin0 (by omega) b6 v1 (by rw [v2]; omega)⟩⟩
      · have b := b6 j hj
        rw [b.1, b.2.1, b.2.2]
        exact ⟨(g5 j hj).1.same t56.1 t56.2, (g5 j hj).2⟩
      · rw [v1, v2, v3]
        exact ⟨⟨by omega, by omega⟩, ⟨by omega, by omega, by omega⟩, fun w => by omega, fun w => by omega, fun w => by omega⟩
    · have hiT : (i : Int) < ln M (mR M a 2) := by omega
      have hin : i < txn M a := by omega
      have eli : lt M a i = txc M a i := by unfold lt; rw [if_pos hiT]
      have hlt : ∀ j, lt M5 a j = lt M a j := fun j => by unfold lt; rw [t5.1, t5.2.1, t5.2.2.1]
      refine ⟨w5.1.1, (s_MM_letter (d := d + 4) (by omega) o5 w5).mono (fun x M6 h6 => ?_)⟩
      obtain ⟨e6, hx⟩ := h6
      subst e6
      refine ⟨by rw [hx]; exact lt_i32 o5, o5, k_MM_isLetter o5 (by rw [hx]; exact lt_i32 o5) (fun v hv => ?_)⟩
      refine ⟨⟨by split at hv <;> omega, by split at hv <;> omega⟩, o5, fun v0 => ⟨w5.1.1, (s_MM_letter (d := d + 4) (by omega) o5 w5).mono (fun y M7 h7 => ?_)⟩, fun v0 => ?_⟩
      · obtain ⟨e7, hy⟩ := h7
        subst e7
        refine ⟨by rw [hy]; exact lt_i32 o5, o5, k_MM_isDigit o5 (by rw [hy]; exact lt_i32 o5) (fun u hu => ?_)⟩
        refine ⟨⟨by split at hu <;> omega, by split at hu <;> omega⟩, o5, fun u0 => ⟨w5.1.1, (x_MM_signKind (d := d + 3) (by omega) o5 w5).mono (fun z M8 h8 => ?_)⟩, fun u0 => ?_⟩
        · obtain ⟨e8, z9⟩ := h8
          subst e8
          rw [hlt, hlt, lt_lq (i + 1) ht0, eli] at z9
          have nl : ¬ isL (txc M a i) := by
            rw [← eli, ← hlt, ← hx]
            unfold isL
            split at hv <;> omega
          have nd : ¬ isDq (txc M a i) := by
            rw [← eli, ← hlt, ← hy]
            unfold isDq
            split at hu <;> omega
          have hwk : z = wkq (kw (txc M a)) (txc M a) (txn M a) i := by rw [wkq_sg nl nd]; exact z9
          clear hv v0 hu u0 hx hy
          have hwe := weq_sg (n := txn M a) nl nd
          rw [← z9] at hwe
          replace hwe : Hid _ := hwe
          have hwb := (weq_b (c := txc M a) hin).2
          have zb : 16 ≤ z ∧ z ≤ 39 := by
            rw [z9]
            unfold sgk
            (repeat' split) <;> omega
          obtain ⟨z1, z2⟩ := zb
          have z3 : z ≤ 20 → ((i + 1 : Nat) : Int) < ln M (mR M a 2) := fun q => by
            unfold Hid at hwe
            rw [if_pos ⟨z1, q⟩] at hwe
            omega
          clear z9
          refine ⟨⟨by omega, by omega⟩, o5, fun r hr q hq => ⟨w5.1.1, ?_⟩⟩
          have hq12 : q = 1 ∨ q = 2 := by split at hq <;> omega
          have hq2 : q = 2 → z ≤ 20 := fun w => by
            rw [w] at hq
            split at hr <;> split at hq <;> omega
          have ep : (i : Int) + q = ((i + q.toNat : Nat) : Int) := by omega
          rw [ep]
          exact put z (i + q.toNat) (by omega) (by omega) (by omega) (by
            rcases hq12 with w | w
            · omega
            · have := z3 (hq2 w)
              omega) (fun w => by omega) (fun w => by omega) hwk (by
            unfold Hid at hwe
            rw [hwe]
            by_cases y20 : 16 ≤ z ∧ z ≤ 20
            · rw [if_pos y20]
              have : r ≠ 0 := by split at hr <;> omega
              have : q = 2 := by split at hq <;> omega
              omega
            · rw [if_neg y20]
              have : r = 0 := by split at hr <;> omega
              have : q = 1 := by split at hq <;> omega
              omega)
        · -- a number
          have hdig : 48 ≤ lt M a i ∧ lt M a i ≤ 57 := by
            rw [← hlt, ← hy]
            split at hu <;> omega
          have hdq : isDq (txc M a i) := by rw [← eli]; exact hdig
          clear hv v0 hu u0 hx hy
          have hwe := weq_dg (n := txn M a) hdq
          have hwk := wkq_dg (n := txn M a) (k1 := kw (txc M a)) hdq
          suffices H2 : ∀ (r l : Nat), r = (ln M (mR M a 2)).toNat - l → i ≤ l → (l : Int) ≤ ln M (mR M a 2) → (∀ j, i ≤ j → j < l → 48 ≤ nt M (mR M a 2) j ∧ nt M (mR M a 2) j ≤ 57) → enq isDq (txc M a) (txn M a - i) i = enq isDq (txc M a) (txn M a - l) l → h_MM_cut_133 G (d + 5) a i l M7 (cutX kw M a) from H2 _ i rfl (by omega) (by omega) (fun j a1 a2 => by omega) rfl
          intro r
          induction r with
          | zero =>
            intro l hr hl hlT hdg hX
            refine k_MM_cut_133 o5 ⟨by omega, by omega⟩ ⟨by omega, by omega⟩ ⟨w5.1.1, (s_MM_letter (d := d + 4) (by omega) o5 w5).mono (fun s M8 h8 => ?_)⟩
            obtain ⟨e8, hs⟩ := h8
            subst e8
            have ew : weq (txc M a) (txn M a) i = l := by rw [hwe, hX, show txn M a - l = 0 by first | rfl | omega]; rfl
            have hs0 : s = 0 := by rw [hs, hlt]; unfold lt; rw [if_neg (by omega)]
            refine ⟨by rw [hs]; exact lt_i32 o5, o5, k_MM_isDigit o5 (by rw [hs]; exact lt_i32 o5) (fun u' hu' => ?_)⟩
            rw [if_pos (by omega)] at hu'
            refine ⟨⟨by omega, by omega⟩, o5, fun _ => ⟨⟨by omega, by omega⟩, fun k hk => ⟨w5.1.1, put k l (by split at hk <;> omega) (by split at hk <;> omega) (by
              refine Nat.lt_of_le_of_ne hl (fun w => ?_)
              subst w
              unfold lt at hdig
              rw [if_neg (by omega)] at hdig
              omega) (by omega) (fun w => ⟨by split at hk <;> omega, hdg⟩) (fun w => by split at hk <;> omega) (by rw [hwk, ew]; split at hk <;> split <;> omega) ew.symm⟩⟩, fun w => absurd hu' w⟩
          | succ r ihr =>
            intro l hr hl hlT hdg hX
            refine k_MM_cut_133 o5 ⟨by omega, by omega⟩ ⟨by omega, by omega⟩ ⟨w5.1.1, (s_MM_letter (d := d + 4) (by omega) o5 w5).mono (fun s M8 h8 => ?_)⟩
            obtain ⟨e8, hs⟩ := h8
            subst e8
            have hs1 : s = nt M (mR M a 2) l := by rw [hs, hlt]; unfold lt; rw [if_pos (by omega)]
            refine ⟨by rw [hs]; exact lt_i32 o5, o5, k_MM_isDigit o5 (by rw [hs]; exact lt_i32 o5) (fun u' hu' => ?_)⟩
            have efl : txn M a - l = (txn M a - (l + 1)) + 1 := by omega
            have ewn : u' = 0 → weq (txc M a) (txn M a) i = l := fun q => by
              have : ¬ isDq (txc M a l) := by
                unfold isDq
                show ¬ (48 ≤ nt M (mR M a 2) l ∧ nt M (mR M a 2) l ≤ 57)
                rw [← hs1]
                split at hu' <;> omega
              rw [hwe, hX, efl, enq_n this]
            have hXy : u' ≠ 0 → enq isDq (txc M a) (txn M a - i) i = enq isDq (txc M a) (txn M a - (l + 1)) (l + 1) := fun q => by
              have : isDq (txc M a l) := by
                unfold isDq
                show 48 ≤ nt M (mR M a 2) l ∧ nt M (mR M a 2) l ≤ 57
                rw [← hs1]
                split at hu' <;> omega
              rw [hX, efl, enq_y this]
            clear hX efl
            refine ⟨⟨by split at hu' <;> omega, by split at hu' <;> omega⟩, o5, fun u0' => ⟨⟨by omega, by omega⟩, fun k hk => ⟨w5.1.1, put k l (by split at hk <;> omega) (by split at hk <;> omega) (by
              refine Nat.lt_of_le_of_ne hl (fun w => ?_)
              subst w
              have : s = lt M a i := by rw [hs, hlt]
              split at hu' <;> omega) (by omega) (fun w => ⟨by split at hk <;> omega, hdg⟩) (fun w => by split at hk <;> omega) (by rw [hwk, ewn u0']; split at hk <;> split <;> omega) (ewn u0').symm⟩⟩, fun u0' => ?_⟩
            exact ihr (l + 1) (by omega) (by omega) (by omega) (fun j a1 a2 => by
              by_cases z : j = l
              · rw [z, ← hs1]
                split at hu' <;> omega
              · exact hdg j a1 (by omega)) (hXy u0')
      · -- a name
        have hlet : isL (lt M a i) := by
          rw [← hlt, ← hx]
          unfold isL
          split at hv <;> omega
        have hlq : isL (txc M a i) := by rw [← eli]; exact hlet
        clear hv v0 hx
        have hwe := weq_lt (n := txn M a) hlq
        have hwk := wkq_lt (n := txn M a) (k1 := kw (txc M a)) hlq
        suffices H2 : ∀ (r l : Nat), r = (ln M (mR M a 2)).toNat - l → i ≤ l → (l : Int) ≤ ln M (mR M a 2) → enq nmq (txc M a) (txn M a - i) i = enq nmq (txc M a) (txn M a - l) l → h_MM_cut_60 G (d + 5) a i l M6 (cutX kw M a) from H2 _ i rfl (by omega) (by omega) rfl
        have h117 : ∀ (k : Int) (l : Nat), 1 ≤ k → k ≤ 39 → i < l → (l : Int) ≤ ln M (mR M a 2) → k ≠ 2 → (k = 1 → l ≤ i + 40) → k = wkq (kw (txc M a)) (txc M a) (txn M a) i → l = weq (txc M a) (txn M a) i → h_MM_cut_117 G (d + 5) a i l k M6 (cutX kw M a) := fun k l k1 k2 hl hlT hk2 hk1 hw1 hw2 =>
          k_MM_cut_117 o5 ⟨by omega, by omega⟩ ⟨by omega, by omega⟩ ⟨by omega, by omega⟩ ⟨w5.1.1, put k l k1 k2 hl hlT (fun w => absurd w hk2) hk1 hw1 hw2⟩
        have hfin : ∀ l : Nat, i ≤ l → (l : Int) ≤ ln M (mR M a 2) → (¬ isL (lt M a l)) → weq (txc M a) (txn M a) i = l → (i32 ((l : Int) - i) ∧ (((l : Int) - i ≤ 40) → (mK M6 a = 14 ∧ Ci G y_MM_wordKind (d + 5) [vr a, vi i, vi l] M6 (fun x M' => i32 x ∧ mOk M' ∧ h_MM_cut_117 G (d + 5) a i l x M' (cutX kw M a)))) ∧ (¬ ((l : Int) - i ≤ 40) → h_MM_cut_117 G (d + 5) a i l 39 M6 (cutX kw M a))) := fun l hl hlT hnl ew => by
          have hil : i < l := Nat.lt_of_le_of_ne hl (fun w => by subst w; exact hnl hlet)
          refine ⟨⟨by omega, by omega⟩, fun w => ⟨w5.1.1, (hWK d a i l M6 o5 w5 hil (by omega) (by omega) (by omega)).mono (fun k M7 h7 => ?_)⟩, fun w => h117 39 l (by omega) (by omega) hil hlT (by omega) (fun w => by omega) (by rw [hwk, ew, if_pos (by omega)]) ew.symm⟩
          obtain ⟨e7, ⟨k1, k2, k3⟩, k4⟩ := h7
          subst e7
          rw [eC5] at k4
          exact ⟨⟨by omega, by omega⟩, o5, h117 k l k1 (by omega) hil hlT k3 (fun _ => by omega) (by rw [hwk, ew, if_neg (by omega)]; exact k4) ew.symm⟩
        intro r
        induction r with
        | zero =>
          intro l hr hl hlT hX
          have ew : weq (txc M a) (txn M a) i = l := by rw [hwe, hX, show txn M a - l = 0 by first | rfl | omega]; rfl
          have hl0 : lt M a l = 0 := by unfold lt; rw [if_neg (by omega)]
          refine k_MM_cut_60 o5 ⟨by omega, by omega⟩ ⟨by omega, by omega⟩ ⟨w5.1.1, (s_MM_letter (d := d + 4) (by omega) o5 w5).mono (fun s M7 h7 => ?_)⟩
          obtain ⟨e7, hs⟩ := h7
          subst e7
          rw [hlt, hl0] at hs
          refine ⟨⟨by omega, by omega⟩, o5, k_MM_isLetter o5 ⟨by omega, by omega⟩ (fun u hu => ?_)⟩
          rw [if_pos (by omega)] at hu
          refine ⟨⟨by omega, by omega⟩, o5, fun _ => ⟨w5.1.1, (s_MM_letter (d := d + 4) (by omega) o5 w5).mono (fun s' M8 h8 => ?_)⟩, fun w => absurd hu w⟩
          obtain ⟨e8, hs'⟩ := h8
          subst e8
          rw [hlt, hl0] at hs'
          refine ⟨⟨by omega, by omega⟩, o5, k_MM_isDigit o5 ⟨by omega, by omega⟩ (fun u' hu' => ?_)⟩
          rw [if_pos (by omega)] at hu'
          refine ⟨⟨by omega, by omega⟩, o5, fun _ => ⟨w5.1.1, (s_MM_letter (d := d + 4) (by omega) o5 w5).mono (fun s'' M9 h9 => ?_)⟩, fun w => absurd hu' w⟩
          obtain ⟨e9, hs''⟩ := h9
          subst e9
          rw [hlt, hl0] at hs''
          exact ⟨⟨by omega, by omega⟩, o5, fun w => by omega, fun _ => hfin l hl hlT (by rw [hl0]; unfold isL; omega) ew⟩
        | succ r ihr =>
          intro l hr hl hlT hX
          have ell : lt M a l = txc M a l := by unfold lt; rw [if_pos (by omega)]
          rw [show txn M a - l = (txn M a - (l + 1)) + 1 by first | rfl | omega] at hX
          have nx : nmq (lt M a l) → h_MM_cut_60 G (d + 5) a i ((l + 1 : Nat) : Int) M6 (cutX kw M a) := fun q => ihr (l + 1) (by omega) (by omega) (by omega) (by rw [hX]; exact enq_y (P := nmq) (by rw [← ell]; exact q))
          have ewn : ¬ nmq (lt M a l) → weq (txc M a) (txn M a) i = l := fun q => by rw [hwe, hX, enq_n (by rw [← ell]; exact q)]
          clear hX
          refine k_MM_cut_60 o5 ⟨by omega, by omega⟩ ⟨by omega, by omega⟩ ⟨w5.1.1, (s_MM_letter (d := d + 4) (by omega) o5 w5).mono (fun s M7 h7 => ?_)⟩
          obtain ⟨e7, hs⟩ := h7
          subst e7
          refine ⟨by rw [hs]; exact lt_i32 o5, o5, k_MM_isLetter o5 (by rw [hs]; exact lt_i32 o5) (fun u hu => ?_)⟩
          have hnl : u = 0 → ¬ isL (lt M a l) := fun w => by
            rw [← hlt, ← hs]
            unfold isL
            split at hu <;> omega
          have hyl : u ≠ 0 → isL (lt M a l) := fun w => by
            rw [← hlt, ← hs]
            unfold isL
            split at hu <;> omega
          refine ⟨⟨by split at hu <;> omega, by split at hu <;> omega⟩, o5, fun u0 => ⟨w5.1.1, (s_MM_letter (d := d + 4) (by omega) o5 w5).mono (fun s' M8 h8 => ?_)⟩, fun u0 => nx (Or.inl (hyl u0))⟩
          obtain ⟨e8, hs'⟩ := h8
          subst e8
          refine ⟨by rw [hs']; exact lt_i32 o5, o5, k_MM_isDigit o5 (by rw [hs']; exact lt_i32 o5) (fun u' hu' => ?_)⟩
          have hdl : u' ≠ 0 ↔ isDq (lt M a l) := by
            rw [← hlt, ← hs', hu']
            unfold isDq
            split <;> omega
          refine ⟨⟨by split at hu' <;> omega, by split at hu' <;> omega⟩, o5, fun u0' => ⟨w5.1.1, (s_MM_letter (d := d + 4) (by omega) o5 w5).mono (fun s'' M9 h9 => ?_)⟩, fun u0' => nx (Or.inr (Or.inl (hdl.mp u0')))⟩
          obtain ⟨e9, hs''⟩ := h9
          subst e9
          rw [hlt] at hs''
          refine ⟨by rw [hs'', ← hlt]; exact lt_i32 o5, o5, fun q => nx (Or.inr (Or.inr (by rw [← hs'']; exact q))), fun q => hfin l hl hlT (hnl u0) (ewn (fun z => ?_))⟩
          rcases z with z | z | z
          · exact hnl u0 z
          · exact hdl.mpr z u0'
          · exact q (by rw [hs'']; exact z)
end
end
