/-! The solver: one row is cleared of a column, the loop. -/
section VS
variable {G : mG} {d s m : Nat} {M : mM} {A : Nat → Nat → Rat}
abbrev ccA (A : Nat → Nat → Rat) (i k j : Nat) : Nat → Nat → Rat := fun a b => if a = i ∧ k ≤ b ∧ b < j then A i b - A i k * A k b else A a b
theorem ccA_step {A : Nat → Nat → Rat} {i k j : Nat} (hj : k ≤ j) : (fun a b => if a = i ∧ b = j then A i j - A i k * A k j else ccA A i k j a b) = ccA A i k (j + 1) := by
  funext a b
  by_cases q : a = i ∧ b = j
  · show (if a = i ∧ b = j then A i j - A i k * A k j else _) = if a = i ∧ k ≤ b ∧ b < j + 1 then A i b - A i k * A k b else A a b
    rw [if_pos q, if_pos ⟨q.1, by omega, by omega⟩, q.2]
  · show (if a = i ∧ b = j then A i j - A i k * A k j else (if a = i ∧ k ≤ b ∧ b < j then A i b - A i k * A k b else A a b)) = if a = i ∧ k ≤ b ∧ b < j + 1 then A i b - A i k * A k b else A a b
    rw [if_neg q]
    by_cases z : a = i ∧ k ≤ b ∧ b < j
    · rw [if_pos z, if_pos ⟨z.1, z.2.1, by omega⟩]
    · rw [if_neg z, if_neg (fun w => z ⟨w.1, w.2.1, by have : b ≠ j := fun y => q ⟨w.1, y⟩; omega⟩)]
theorem s_MS_clearColumn {i k : Nat} (hm : m ≤ 40) (hi : i < m) (hk : k < m) (hik : i ≠ k) (hO : mOk M) (hV : Vk M s) (h24 : mI M s 24 = m) (hW : Wk M s) (hT : Tb M s m A) (hA : ∀ a b, a < m → b ≤ m → A a b ≤ 1 ∧ -1 ≤ A a b) (hS : ∀ b, k ≤ b → b ≤ m → Sml (A i b - A i k * A k b)) :
    Cv G y_MS_clearColumn (d + 5) [vr s, vi i, vi k] M (fun M' => mOk M' ∧ FI (cS s m) M M' ∧ Wk M' s ∧ Tb M' s m (ccA A i k (m + 1))) := by
  have hik0 := hT i k hi (by omega)
  refine k_MS_clearColumn hO ⟨by omega, by omega⟩ ⟨by omega, by omega⟩ ⟨hV.k0, (s_MS_cell (by omega) (by omega) hO hV).mono (fun x M1 h1 => ?_)⟩
  obtain ⟨e1, hx⟩ := h1
  subst e1 hx
  rw [hV.r27]
  refine ⟨hO, hW.2.2.1.1.1, (s_MF_copy hO hW.2.2.1 hik0.1 (by unfold cel; omega) hik0.1.2.1.1.2.2.2.2.2.2 hik0.1.2.2.1.1.2.2.2.2.2.2).mono (fun M2 h2 => ?_)⟩
  obtain ⟨g1, g2, g3, g4, g5, g6⟩ := h2
  have hf := fc_copy hik0.2.1 g4 g5 g6
  refine ⟨g1, ?_⟩
  suffices H : ∀ (n j : Nat) (M2 : mM), j + n = m + 1 → k ≤ j → mOk M2 → FI (cS s m) M1 M2 → Wk M2 s → Fq M2 (s + 47) 56 → fv M2 (s + 47) = A i k → Tb M2 s m (ccA A i k j) → h_MS_clearColumn_15 G (d + 4) s i k j M2 (fun M' => mOk M' ∧ FI (cS s m) M1 M' ∧ Wk M' s ∧ Tb M' s m (ccA A i k (m + 1))) by
    refine H (m + 1 - k) k M2 (by omega) (by omega) g1 (g2.mono (fun x q => by have : s + 47 ≤ x ∧ x ≤ s + 47 + 4 := q; omega)) ⟨hW.1.far g2 (fun x q => by have : s + 47 ≤ x ∧ x ≤ s + 47 + 4 := q; omega), hW.2.1.out g2 (fun x q => by have : s + 47 ≤ x ∧ x ≤ s + 47 + 4 := q; omega), g3.ft, hW.2.2.2.1.out g2 (fun x q => by have : s + 47 ≤ x ∧ x ≤ s + 47 + 4 := q; omega), hW.2.2.2.2.1.out g2 (fun x q => by have : s + 47 ≤ x ∧ x ≤ s + 47 + 4 := q; omega), hW.2.2.2.2.2.out g2 (fun x q => by have : s + 47 ≤ x ∧ x ≤ s + 47 + 4 := q; omega)⟩ g3 (hf.2.trans hik0.2.2) ?_
    have hT2 := hT.out g2 (fun x q => by have : s + 47 ≤ x ∧ x ≤ s + 47 + 4 := q; omega)
    intro a b ha hb
    obtain ⟨t1, t2, t3⟩ := hT2 a b ha hb
    refine ⟨t1, t2, t3.trans ?_⟩
    show A a b = if a = i ∧ k ≤ b ∧ b < k then _ else A a b
    rw [if_neg (by omega)]
  clear hf g6 g5 g4 g3 g2 g1 M2
  intro n
  induction n with
  | zero =>
    intro j M2 hn hkj o2 f2 W2 F2 v2 T2
    have es : mI M2 s = mI M1 s := f2.2.2.2.2.2.2 s (by omega)
    refine k_MS_clearColumn_15 o2 ⟨by omega, by omega⟩ ⟨by omega, by omega⟩ ⟨by omega, by omega⟩ ?_
    rw [es, h24]
    have ej : j = m + 1 := by omega
    rw [ej] at T2
    exact ⟨(hV.fi f2).k0, fun _ => ⟨o2, f2, W2, T2⟩, fun c => by omega⟩
  | succ n ih =>
    intro j M2 hn hkj o2 f2 W2 F2 v2 T2
    have hV2 := hV.fi f2
    have es : mI M2 s = mI M1 s := f2.2.2.2.2.2.2 s (by omega)
    have ck := T2 k j hk (by omega)
    have ci := T2 i j hi (by omega)
    have vk : fv M2 (cel s k j) = A k j := ck.2.2.trans (if_neg (by omega))
    have vi' : fv M2 (cel s i j) = A i j := ci.2.2.trans (if_neg (by omega))
    refine k_MS_clearColumn_15 o2 ⟨by omega, by omega⟩ ⟨by omega, by omega⟩ ⟨by omega, by omega⟩ ?_
    rw [es, h24]
    refine ⟨hV2.k0, fun c => by omega, fun _ => (s_MS_cell (by omega) (by omega) o2 hV2).mono (fun x M3 h3 => ?_)⟩
    obtain ⟨e3, hx⟩ := h3
    subst e3 hx
    refine ⟨o2, ck.1.1.1, (s_MF_isZero o2 ck.1).mono (fun y M4 h4 => ?_)⟩
    obtain ⟨e4, hy⟩ := h4
    subst e4
    refine ⟨⟨by split at hy <;> omega, by split at hy <;> omega⟩, o2, fun c => ⟨hV2.k0, (s_MS_cell (by omega) (by omega) o2 hV2).mono (fun x M5 h5 => ?_)⟩, fun c => ?_⟩
    · obtain ⟨e5, hx⟩ := h5
      subst e5 hx
      rw [hV2.r0, hV2.r27]
      have ak := hA i k hi (by omega)
      have akj := hA k j hk (by omega)
      have z1 := F2.2.1.1.2.2.2.2.2.2
      have z2 := F2.2.2.1.1.2.2.2.2.2.2
      have z3 := ck.1.2.1.1.2.2.2.2.2.2
      have z4 := ck.1.2.2.1.1.2.2.2.2.2.2
      refine ⟨o2, W2.1.1.1, (s_MU_multiply (d := d) o2 W2.1 F2 ck.1 (by omega) (by unfold suO cel; omega) (by omega) (by omega)).mono (fun M6 h6 => ?_)⟩
      have hsz := mul_size F2 ck.1 h6 (by rw [v2]; exact ak.1) (by rw [v2]; exact ak.2) (by rw [vk]; exact akj.1) (by rw [vk]; exact akj.2)
      have hv6 := fv_mul F2 ck.1 h6
      rw [v2, vk] at hv6
      obtain ⟨q1, q2, q3, q4, q5, -⟩ := h6
      have q2' : FI (fun x => s + 2 ≤ x ∧ x ≤ s + 21) M5 M6 := q2.mono (fun x q => by omega)
      have V6 := hV2.fi q2
      have W6 : Wk M6 s := W2.out q2' q3 (fun x q => by omega)
      have F6 := (F2.out q2' (fun x q => by omega)).1
      have v6 : fv M6 (s + 47) = A i k := (fv_out F2 q2' (fun x q => by omega)).trans v2
      have T6 := T2.out q2' (fun x q => by omega)
      refine ⟨q1, V6.k0, ?_⟩
      rw [V6.r0, V6.r29, q3.1.2.1]
      refine ⟨q3.1.1, W6.2.2.2.2.1.1.1, (s_MF_copy q1 W6.2.2.2.2.1 q4 (by omega) (by omega) (by omega)).mono (fun M7 h7 => ?_)⟩
      obtain ⟨r1, r2, r3, r4, r5, r6⟩ := h7
      have hf7 := fc_copy q5 r4 r5 r6
      have r2' : FI (fun x => s + 57 ≤ x ∧ x ≤ s + 61) M6 M7 := r2
      have V7 := V6.fi r2
      have Z7 := q3.far r2' (fun x q => by omega)
      have W7 : Wk M7 s := ⟨Z7, W6.2.1.out r2' (fun x q => by omega), W6.2.2.1.out r2' (fun x q => by omega), W6.2.2.2.1.out r2' (fun x q => by omega), r3.ft, W6.2.2.2.2.2.out r2' (fun x q => by omega)⟩
      have F7 := (F6.out r2' (fun x q => by omega)).1
      have v7 : fv M7 (s + 47) = A i k := (fv_out F6 r2' (fun x q => by omega)).trans v6
      have T7 := T6.out r2' (fun x q => by omega)
      have ci7 := T7 i j hi (by omega)
      have vi7 : fv M7 (cel s i j) = A i j := ci7.2.2.trans (if_neg (by omega))
      have s57 : mI M7 (s + 57 + 1) 1 ≤ 112 := Int.le_trans (r3.2.1.le q4.2.1 (by rw [r4]; omega)) hsz.1
      have s573 : mI M7 (s + 57 + 3) 1 ≤ 112 := Int.le_trans (r3.2.2.1.le q4.2.2.1 (by rw [r5]; omega)) hsz.2
      have z5 := ci7.1.2.1.1.2.2.2.2.2.2
      have z6 := ci7.1.2.2.1.1.2.2.2.2.2.2
      refine ⟨r1, V7.k0, (s_MS_cell (by omega) (by omega) r1 V7).mono (fun x M8 h8 => ?_)⟩
      obtain ⟨e8, hx⟩ := h8
      subst e8 hx
      rw [V7.r0, V7.r29]
      refine ⟨r1, V7.k0, Z7.1.1, (s_MU_add (d := d) (Or.inr rfl) r1 Z7 ci7.1 r3 (by unfold suO cel; omega) (by omega) (by omega) (by omega) (by omega)).mono (fun M9 h9 => ?_)⟩
      have hv9 := fv_add (Or.inr rfl) ci7.1 r3 h9
      rw [if_pos rfl, vi7, hf7.2, hv6] at hv9
      obtain ⟨t1, t2, t3, t4, t5, -⟩ := h9
      have t2' : FI (fun x => s + 2 ≤ x ∧ x ≤ s + 21) M8 M9 := t2.mono (fun x q => by omega)
      have V9 := V7.fi t2
      have W9 : Wk M9 s := W7.out t2' t3 (fun x q => by omega)
      have F9 := (F7.out t2' (fun x q => by omega)).1
      have v9 : fv M9 (s + 47) = A i k := (fv_out F7 t2' (fun x q => by omega)).trans v7
      have T9 := T7.out t2' (fun x q => by omega)
      have ci9 := T9 i j hi (by omega)
      have hsm := sml_size t4 t5 (by rw [hv9]; exact hS j hkj (by omega))
      refine ⟨t1, V9.k0, (s_MS_cell (by omega) (by omega) t1 V9).mono (fun x M10 h10 => ?_)⟩
      obtain ⟨e10, hx⟩ := h10
      subst e10 hx
      rw [V9.r0, t3.1.2.1]
      refine ⟨t1, V9.k0, t3.1.1, ci9.1.1.1, (s_MF_copy t1 ci9.1.ft t4 (by unfold cel; omega) hsm.1 hsm.2).mono (fun M11 h11 => ?_)⟩
      obtain ⟨w1, w2, w3, w4, w5, w6⟩ := h11
      have hf11 := fc_copy t5 w4 w5 w6
      have w2' : FI (cR s m) M10 M11 := w2.mono (fun x q => by have q' : cel s i j ≤ x ∧ x ≤ cel s i j + 4 := q; unfold cel at q'; omega)
      have T11 := T9.put hm hi (by omega) w2 w3 hf11.1 (hf11.2.trans hv9)
      rw [ccA_step hkj] at T11
      have fin := ih (j + 1) M11 (by omega) (by omega) w1 ((((f2.trans (q2'.mono (fun x q => by omega))).trans (r2'.mono (fun x q => by omega))).trans (t2'.mono (fun x q => by omega))).trans (w2'.mono (fun x q => by omega))) (W9.out w2' (t3.far w2' (fun x q => by omega)) (fun x q => by omega)) ((F9.out w2' (fun x q => by omega)).1) ((fv_out F9 w2' (fun x q => by omega)).trans v9) T11
      exact ⟨w1, fin⟩
    · have hz : sn M4 (cel s k j) = 0 := by
        by_cases q : sn M4 (cel s k j) = 0
        · exact q
        · rw [if_neg q] at hy; omega
      have hz2 : A k j = 0 := by
        rw [← vk]
        unfold fv
        rw [hz]
        have : ((0 : Int) : Rat) = 0 := rfl
        grind
      refine ih (j + 1) M4 (by omega) (by omega) o2 f2 W2 F2 v2 ?_
      intro a b ha hb
      obtain ⟨t1, t2, t3⟩ := T2 a b ha hb
      refine ⟨t1, t2, t3.trans ?_⟩
      rw [← ccA_step hkj]
      show _ = if a = i ∧ b = j then A i j - A i k * A k j else ccA A i k j a b
      by_cases q : a = i ∧ b = j
      · rw [if_pos q, hz2]
        obtain ⟨q1, q2⟩ := q
        subst q1 q2
        show (if a = a ∧ k ≤ b ∧ b < b then _ else A a b) = _
        rw [if_neg (by omega)]
        grind
      · rw [if_neg q]
end VS
