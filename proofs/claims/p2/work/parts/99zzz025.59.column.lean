section
/-! The solver: one row is cleared of a column. -/
abbrev cR (s m : Nat) : Nat → Prop := fun x => s + 12868 ≤ x ∧ x < s + 12868 + 205 * m ∧ (x - (s + 12868)) % 205 < 5 * m + 5
abbrev cS (s m : Nat) : Nat → Prop := fun x => (s + 2 ≤ x ∧ x ≤ s + 21) ∨ (s + 47 ≤ x ∧ x ≤ s + 51) ∨ (s + 57 ≤ x ∧ x ≤ s + 61) ∨ cR s m x
theorem fv_abs {M : mM} {f r : Nat} (hF : Fq M f r) (h1 : fv M f ≤ 1) (h2 : -1 ≤ fv M f) : sn M f ≤ sd M f ∧ - sd M f ≤ sn M f := by
  have p : 0 < sd M f := hF.2.2.2.2
  have pr : (0 : Rat) ≤ (sd M f : Rat) := Rat.le_of_lt (Rat.intCast_pos.2 p)
  have e := fv_sd hF
  have a1 : 0 ≤ (1 - fv M f) * (sd M f : Rat) := Rat.mul_nonneg (by grind) pr
  have a2 : 0 ≤ (1 + fv M f) * (sd M f : Rat) := Rat.mul_nonneg (by grind) pr
  exact ⟨ic_le (by grind), ic_le (by rw [Rat.intCast_neg]; grind)⟩
theorem abs_mul1 {x y : Rat} (h1 : x ≤ 1) (h2 : -1 ≤ x) (h3 : y ≤ 1) (h4 : -1 ≤ y) : x * y ≤ 1 ∧ -1 ≤ x * y := by
  have a := Rat.mul_nonneg (a := 1 - x) (b := 1 + y) (by grind) (by grind)
  have b := Rat.mul_nonneg (a := 1 + x) (b := 1 - y) (by grind) (by grind)
  have c := Rat.mul_nonneg (a := 1 - x) (b := 1 - y) (by grind) (by grind)
  have d := Rat.mul_nonneg (a := 1 + x) (b := 1 + y) (by grind) (by grind)
  constructor <;> grind
theorem Wk.out {S : Nat → Prop} {M M' : mM} {s : Nat} (h : Wk M s) (k : FI S M M') (hz : Sz M' (s + 1)) (hs : ∀ x, S x → x < s + 42 ∨ s + 66 < x) : Wk M' s :=
  ⟨hz, h.2.1.out k (fun x q => by have := hs x q; omega), h.2.2.1.out k (fun x q => by have := hs x q; omega), h.2.2.2.1.out k (fun x q => by have := hs x q; omega), h.2.2.2.2.1.out k (fun x q => by have := hs x q; omega), h.2.2.2.2.2.out k (fun x q => by have := hs x q; omega)⟩
theorem Sz.far {S : Nat → Prop} {M M' : mM} {u : Nat} (h : Sz M u) (k : FI S M M') (hs : ∀ x, S x → x < u ∨ u + 20 < x) : Sz M' u :=
  ⟨h.1.fi k, h.2.1.fi k, h.2.2.1.fi k, fun e he => (h.wh e he).out k (fun q => by
    have h1 : ∀ e ∈ szL, 1 ≤ e ∧ e ≤ 20 := by decide
    have h2 := h1 e he
    have := hs _ q
    omega)⟩
section VS
variable {G : mG} {d s m : Nat} {M : mM} {A : Nat → Nat → Rat}
/-- a product of two small ones takes at most 112 parts -/
theorem mul_size {M M' : mM} {u a b : Nat} (hA : Fq M a 56) (hB : Fq M b 56) (h : suQ M u (sn M a * sn M b) (sd M a * sd M b) M') (x1 : fv M a ≤ 1) (x2 : -1 ≤ fv M a) (y1 : fv M b ≤ 1) (y2 : -1 ≤ fv M b) : mI M' (u + 1 + 1) 1 ≤ 112 ∧ mI M' (u + 1 + 3) 1 ≤ 112 := by
  have e := fv_mul hA hB h
  have p1 : 0 < sd M a := hA.2.2.2.2
  have p2 : 0 < sd M b := hB.2.2.2.2
  have hF := h.2.2.2.1
  have b1 := abs_mul1 x1 x2 y1 y2
  rw [← e] at b1
  have b2 := fv_abs hF b1.1 b1.2
  have l1 : sd M a < 16777216 ^ 56 := Int.lt_of_lt_of_le hA.2.2.1.lt (pow_mono (by have := hA.2.2.1.1.2.2.2.2.2.2; omega))
  have l2 : sd M b < 16777216 ^ 56 := Int.lt_of_lt_of_le hB.2.2.1.lt (pow_mono (by have := hB.2.2.1.1.2.2.2.2.2.2; omega))
  have l3 : sd M a * sd M b < 16777216 ^ 112 := by
    rw [show (16777216 : Int) ^ 112 = 16777216 ^ 56 * 16777216 ^ 56 from Int.pow_add 16777216 56 56]
    exact mul_lt_B l1 l2 (by omega) (by omega)
  refine fc_size hF h.2.2.2.2.1 (E := sd M a * sd M b) (z := sn M a * sn M b) ?_ (Int.mul_pos p1 p2) l3 b2.1 b2.2
  rw [e, Rat.intCast_mul, Rat.intCast_mul, ← fv_sd hA, ← fv_sd hB]
  grind
end VS
end
section
/-! The solver: one row is cleared of a column, the loop. -/
section VS
variable {G : mG} {d s m : Nat} {M : mM} {A : Nat → Nat → Rat}
abbrev ccA (A : Nat → Nat → Rat) (i k j : Nat) : Nat → Nat → Rat := fun a b => if a = i ∧ k ≤ b ∧ b < j then A i b - A i k * A k b else A a b
theorem ccA_step {A : Nat → Nat → Rat} {i k j : Nat} (hj : k ≤ j) : (fun a b => if a = i ∧ b = j then A i j - A i k * A k j else ccA A i k j a b) = ccA A i k (j + 1) := by
  funext a b
  by_cases q : a = i ∧ b = j
  · show (if a = i ∧ b = j then A i j - A i k * A k j else _) = if a = i ∧ k ≤ b ∧ b < j + 1 then A i b - A i k * A k b else A a b
    rw [if_pos q, if_pos ⟨q.1, by omega, by omega⟩, q.2]
  · show (if a = i ∧ b = j then A i j - A i k * A k j else (if a = i ∧ k ≤ b ∧ b < j then A i b - A i k * A k b else A a b)) = if a = i ∧ k ≤ b ∧ b < j + 1 then A i b - A i k * A k b else A a b
    rw [if_neg q]
    by_cases z : a = i ∧ k ≤ b ∧ b < j
    · rw [if_pos z, if_pos ⟨z.1, z.2.1, by omega⟩]
    · rw [if_neg z, if_neg (fun w => z ⟨w.1, w.2.1, by have : b ≠ j := fun y => q ⟨w.1, y⟩; omega⟩)]
theorem s_MS_clearColumn {i k : Nat} (hm : m ≤ 40) (hi : i < m) (hk : k < m) (hik : i ≠ k) (hO : mOk M) (hV : Vk M s) (h24 : mI M s 24 = m) (hW : Wk M s) (hT : Tb M s m A) (hA : ∀ a b, a < m → b ≤ m → A a b ≤ 1 ∧ -1 ≤ A a b) (hS : ∀ b, k ≤ b → b ≤ m → Sml (A i b - A i k * A k b)) :
    Cv G y_MS_clearColumn (d + 5) [vr s, vi i, vi k] M (fun M' => mOk M' ∧ FI (cS s m) M M' ∧ Wk M' s ∧ Tb M' s m (ccA A i k (m + 1))) := by
  have hik0 := hT i k hi (by omega)
  refine k_MS_clearColumn hO ⟨by omega, by omega⟩ ⟨by omega, by omega⟩ ⟨hV.k0, (s_MS_cell (by omega) (by omega) hO hV).mono (fun x M1 h1 => ?_)⟩
  obtain ⟨e1, hx⟩ := h1
  subst e1 hx
  rw [hV.r27]
  refine ⟨hO, hW.2.2.1.1.1, (s_MF_copy hO hW.2.2.1 hik0.1 (by unfold cel; omega) hik0.1.2.1.1.2.2.2.2.2.2 hik0.1.2.2.1.1.2.2.2.2.2.2).mono (fun M2 h2 => ?_)⟩
  obtain ⟨g1, g2, g3, g4, g5, g6⟩ := h2
  have hf := fc_copy hik0.2.1 g4 g5 g6
  refine ⟨g1, ?_⟩
  suffices H : ∀ (n j : Nat) (M2 : mM), j + n = m + 1 → k ≤ j → mOk M2 → FI (cS s m) M1 M2 → Wk M2 s → Fq M2 (s + 47) 56 → fv M2 (s + 47) = A i k → Tb M2 s m (ccA A i k j) → h_MS_clearColumn_15 G (d + 4) s i k j M2 (fun M' => mOk M' ∧ FI (cS s m) M1 M' ∧ Wk M' s ∧ Tb M' s m (ccA A i k (m + 1))) by
    refine H (m + 1 - k) k M2 (by omega) (by omega) g1 (g2.mono (fun x q => by have : s + 47 ≤ x ∧ x ≤ s + 47 + 4 := q; omega)) ⟨hW.1.far g2 (fun x q => by have : s + 47 ≤ x ∧ x ≤ s + 47 + 4 := q; omega), hW.2.1.out g2 (fun x q => by have : s + 47 ≤ x ∧ x ≤ s + 47 + 4 := q; omega), g3.ft, hW.2.2.2.1.out g2 (fun x q => by have : s + 47 ≤ x ∧ x ≤ s + 47 + 4 := q; omega), hW.2.2.2.2.1.out g2 (fun x q => by have : s + 47 ≤ x ∧ x ≤ s + 47 + 4 := q; omega), hW.2.2.2.2.2.out g2 (fun x q => by have : s + 47 ≤ x ∧ x ≤ s + 47 + 4 := q; omega)⟩ g3 (hf.2.trans hik0.2.2) ?_
    have hT2 := hT.out g2 (fun x q => by have : s + 47 ≤ x ∧ x ≤ s + 47 + 4 := q; omega)
    intro a b ha hb
    obtain ⟨t1, t2, t3⟩ := hT2 a b ha hb
    refine ⟨t1, t2, t3.trans ?_⟩
    show A a b = if a = i ∧ k ≤ b ∧ b < k then _ else A a b
    rw [if_neg (by omega)]
  clear hf g6 g5 g4 g3 g2 g1 M2
  intro n
  induction n with
  | zero =>
    intro j M2 hn hkj o2 f2 W2 F2 v2 T2
    have es : mI M2 s = mI M1 s := f2.2.2.2.2.2.2 s (by omega)
    refine k_MS_clearColumn_15 o2 ⟨by omega, by omega⟩ ⟨by omega, by omega⟩ ⟨by omega, by omega⟩ ?_
    rw [es, h24]
    have ej : j = m + 1 := by omega
    rw [ej] at T2
    exact ⟨(hV.fi f2).k0, fun _ => ⟨o2, f2, W2, T2⟩, fun c => by omega⟩
  | succ n ih =>
    intro j M2 hn hkj o2 f2 W2 F2 v2 T2
    have hV2 := hV.fi f2
    have es : mI M2 s = mI M1 s := f2.2.2.2.2.2.2 s (by omega)
    have ck := T2 k j hk (by omega)
    have ci := T2 i j hi (by omega)
    have vk : fv M2 (cel s k j) = A k j := ck.2.2.trans (if_neg (by omega))
    have vi' : fv M2 (cel s i j) = A i j := ci.2.2.trans (if_neg (by omega))
    refine k_MS_clearColumn_15 o2 ⟨by omega, by omega⟩ ⟨by omega, by omega⟩ ⟨by omega, by omega⟩ ?_
    rw [es, h24]
    refine ⟨hV2.k0, fun c => by omega, fun _ => (s_MS_cell (by omega) (by omega) o2 hV2).mono (fun x M3 h3 => ?_)⟩
    obtain ⟨e3, hx⟩ := h3
    subst e3 hx
    refine ⟨o2, ck.1.1.1, (s_MF_isZero o2 ck.1).mono (fun y M4 h4 => ?_)⟩
    obtain ⟨e4, hy⟩ := h4
    subst e4
    refine ⟨⟨by split at hy <;> omega, by split at hy <;> omega⟩, o2, fun c => ⟨hV2.k0, (s_MS_cell (by omega) (by omega) o2 hV2).mono (fun x M5 h5 => ?_)⟩, fun c => ?_⟩
    · obtain ⟨e5, hx⟩ := h5
      subst e5 hx
      rw [hV2.r0, hV2.r27]
      have ak := hA i k hi (by omega)
      have akj := hA k j hk (by omega)
      have z1 := F2.2.1.1.2.2.2.2.2.2
      have z2 := F2.2.2.1.1.2.2.2.2.2.2
      have z3 := ck.1.2.1.1.2.2.2.2.2.2
      have z4 := ck.1.2.2.1.1.2.2.2.2.2.2
      refine ⟨o2, W2.1.1.1, (s_MU_multiply (d := d) o2 W2.1 F2 ck.1 (by omega) (by unfold suO cel; omega) (by omega) (by omega)).mono (fun M6 h6 => ?_)⟩
      have hsz := mul_size F2 ck.1 h6 (by rw [v2]; exact ak.1) (by rw [v2]; exact ak.2) (by rw [vk]; exact akj.1) (by rw [vk]; exact akj.2)
      have hv6 := fv_mul F2 ck.1 h6
      rw [v2, vk] at hv6
      obtain ⟨q1, q2, q3, q4, q5, -⟩ := h6
      have q2' : FI (fun x => s + 2 ≤ x ∧ x ≤ s + 21) M5 M6 := q2.mono (fun x q => by omega)
      have V6 := hV2.fi q2
      have W6 : Wk M6 s := W2.out q2' q3 (fun x q => by omega)
      have F6 := (F2.out q2' (fun x q => by omega)).1
      have v6 : fv M6 (s + 47) = A i k := (fv_out F2 q2' (fun x q => by omega)).trans v2
      have T6 := T2.out q2' (fun x q => by omega)
      refine ⟨q1, V6.k0, ?_⟩
      rw [V6.r0, V6.r29, q3.1.2.1]
      refine ⟨q3.1.1, W6.2.2.2.2.1.1.1, (s_MF_copy q1 W6.2.2.2.2.1 q4 (by omega) (by omega) (by omega)).mono (fun M7 h7 => ?_)⟩
      obtain ⟨r1, r2, r3, r4, r5, r6⟩ := h7
      have hf7 := fc_copy q5 r4 r5 r6
      have r2' : FI (fun x => s + 57 ≤ x ∧ x ≤ s + 61) M6 M7 := r2
      have V7 := V6.fi r2
      have Z7 := q3.far r2' (fun x q => by omega)
      have W7 : Wk M7 s := ⟨Z7, W6.2.1.out r2' (fun x q => by omega), W6.2.2.1.out r2' (fun x q => by omega), W6.2.2.2.1.out r2' (fun x q => by omega), r3.ft, W6.2.2.2.2.2.out r2' (fun x q => by omega)⟩
      have F7 := (F6.out r2' (fun x q => by omega)).1
      have v7 : fv M7 (s + 47) = A i k := (fv_out F6 r2' (fun x q => by omega)).trans v6
      have T7 := T6.out r2' (fun x q => by omega)
      have ci7 := T7 i j hi (by omega)
      have vi7 : fv M7 (cel s i j) = A i j := ci7.2.2.trans (if_neg (by omega))
      have s57 : mI M7 (s + 57 + 1) 1 ≤ 112 := Int.le_trans (r3.2.1.le q4.2.1 (by rw [r4]; omega)) hsz.1
      have s573 : mI M7 (s + 57 + 3) 1 ≤ 112 := Int.le_trans (r3.2.2.1.le q4.2.2.1 (by rw [r5]; omega)) hsz.2
      have z5 := ci7.1.2.1.1.2.2.2.2.2.2
      have z6 := ci7.1.2.2.1.1.2.2.2.2.2.2
      refine ⟨r1, V7.k0, (s_MS_cell (by omega) (by omega) r1 V7).mono (fun x M8 h8 => ?_)⟩
      obtain ⟨e8, hx⟩ := h8
      subst e8 hx
      rw [V7.r0, V7.r29]
      refine ⟨r1, V7.k0, Z7.1.1, (s_MU_add (d := d) (Or.inr rfl) r1 Z7 ci7.1 r3 (by unfold suO cel; omega) (by omega) (by omega) (by omega) (by omega)).mono (fun M9 h9 => ?_)⟩
      have hv9 := fv_add (Or.inr rfl) ci7.1 r3 h9
      rw [if_pos rfl, vi7, hf7.2, hv6] at hv9
      obtain ⟨t1, t2, t3, t4, t5, -⟩ := h9
      have t2' : FI (fun x => s + 2 ≤ x ∧ x ≤ s + 21) M8 M9 := t2.mono (fun x q => by omega)
      have V9 := V7.fi t2
      have W9 : Wk M9 s := W7.out t2' t3 (fun x q => by omega)
      have F9 := (F7.out t2' (fun x q => by omega)).1
      have v9 : fv M9 (s + 47) = A i k := (fv_out F7 t2' (fun x q => by omega)).trans v7
      have T9 := T7.out t2' (fun x q => by omega)
      have ci9 := T9 i j hi (by omega)
      have hsm := sml_size t4 t5 (by rw [hv9]; exact hS j hkj (by omega))
      refine ⟨t1, V9.k0, (s_MS_cell (by omega) (by omega) t1 V9).mono (fun x M10 h10 => ?_)⟩
      obtain ⟨e10, hx⟩ := h10
      subst e10 hx
      rw [V9.r0, t3.1.2.1]
      refine ⟨t1, V9.k0, t3.1.1, ci9.1.1.1, (s_MF_copy t1 ci9.1.ft t4 (by unfold cel; omega) hsm.1 hsm.2).mono (fun M11 h11 => ?_)⟩
      obtain ⟨w1, w2, w3, w4, w5, w6⟩ := h11
      have hf11 := fc_copy t5 w4 w5 w6
      have w2' : FI (cR s m) M10 M11 := w2.mono (fun x q => by have q' : cel s i j ≤ x ∧ x ≤ cel s i j + 4 := q; unfold cel at q'; omega)
      have T11 := T9.put hm hi (by omega) w2 w3 hf11.1 (hf11.2.trans hv9)
      rw [ccA_step hkj] at T11
      have fin := ih (j + 1) M11 (by omega) (by omega) w1 ((((f2.trans (q2'.mono (fun x q => by omega))).trans (r2'.mono (fun x q => by omega))).trans (t2'.mono (fun x q => by omega))).trans (w2'.mono (fun x q => by omega))) (W9.out w2' (t3.far w2' (fun x q => by omega)) (fun x q => by omega)) ((F9.out w2' (fun x q => by omega)).1) ((fv_out F9 w2' (fun x q => by omega)).trans v9) T11
      exact ⟨w1, fin⟩
    · have hz : sn M4 (cel s k j) = 0 := by
        by_cases q : sn M4 (cel s k j) = 0
        · exact q
        · rw [if_neg q] at hy; omega
      have hz2 : A k j = 0 := by
        rw [← vk]
        unfold fv
        rw [hz]
        have : ((0 : Int) : Rat) = 0 := rfl
        grind
      refine ih (j + 1) M4 (by omega) (by omega) o2 f2 W2 F2 v2 ?_
      intro a b ha hb
      obtain ⟨t1, t2, t3⟩ := T2 a b ha hb
      refine ⟨t1, t2, t3.trans ?_⟩
      rw [← ccA_step hkj]
      show _ = if a = i ∧ b = j then A i j - A i k * A k j else ccA A i k j a b
      by_cases q : a = i ∧ b = j
      · rw [if_pos q, hz2]
        obtain ⟨q1, q2⟩ := q
        subst q1 q2
        show (if a = a ∧ k ≤ b ∧ b < b then _ else A a b) = _
        rw [if_neg (by omega)]
        grind
      · rw [if_neg q]
end VS
end
section
/-! The solver: a row is divided by its pivot. -/
section VS
variable {G : mG} {d s m : Nat} {M : mM} {A : Nat → Nat → Rat}
abbrev dvA (A : Nat → Nat → Rat) (k : Nat) (j : Int) : Nat → Nat → Rat := fun a b => if a = k ∧ j < (b : Int) then A k b * (A k k)⁻¹ else A a b
theorem dvA_step {A : Nat → Nat → Rat} {k j : Nat} : (fun a b => if a = k ∧ b = j then A k j * (A k k)⁻¹ else dvA A k j a b) = dvA A k ((j : Int) + (-1)) := by
  funext a b
  show (if a = k ∧ b = j then A k j * (A k k)⁻¹ else (if a = k ∧ (j : Int) < (b : Int) then A k b * (A k k)⁻¹ else A a b)) = if a = k ∧ (j : Int) + (-1) < (b : Int) then A k b * (A k k)⁻¹ else A a b
  by_cases q : a = k ∧ b = j
  · rw [if_pos q, if_pos ⟨q.1, by omega⟩, q.2]
  · rw [if_neg q]
    by_cases z : a = k ∧ (j : Int) < (b : Int)
    · rw [if_pos z, if_pos ⟨z.1, by omega⟩]
    · rw [if_neg z, if_neg (fun w => z ⟨w.1, by have : b ≠ j := fun y => q ⟨w.1, y⟩; omega⟩)]
theorem s_row {k : Nat} {Q : mM → Prop} (hm : m ≤ 40) (hk : k < m) (hO : mOk M) (hV : Vk M s) (hW : Wk M s) (hT : Tb M s m A) (hp : A k k ≠ 0) (hS : ∀ b, k ≤ b → b ≤ m → Sml (A k b * (A k k)⁻¹))
    (hQ : ∀ M', mOk M' → FI (cS s m) M M' → Wk M' s → Tb M' s m (dvA A k ((k : Int) + (-1))) → h_MS_solveRows_63 G (d + 4) s k 0 M' Q) : h_MS_solveRows_15 G (d + 4) s k m M Q := by
  have hT0 : Tb M s m (dvA A k (m : Int)) := by
    intro a b ha hb
    obtain ⟨t1, t2, t3⟩ := hT a b ha hb
    refine ⟨t1, t2, t3.trans ?_⟩
    show A a b = if a = k ∧ (m : Int) < (b : Int) then _ else A a b
    rw [if_neg (by omega)]
  suffices H : ∀ (n : Nat) (j : Int) (M2 : mM), j + 1 = k + n → j ≤ m → mOk M2 → FI (cS s m) M M2 → Wk M2 s → Tb M2 s m (dvA A k j) → h_MS_solveRows_15 G (d + 4) s k j M2 Q from
    H (m + 1 - k) m M (by omega) (by omega) hO FI.refl hW hT0
  intro n
  induction n with
  | zero =>
    intro j M2 hn hj o2 f2 W2 T2
    have ej : j = (k : Int) + (-1) := by omega
    rw [ej] at T2
    exact k_MS_solveRows_15 o2 ⟨by omega, by omega⟩ ⟨by omega, by omega⟩ ⟨fun _ => hQ M2 o2 f2 W2 T2, fun c => by omega⟩
  | succ n ih =>
    intro j0 M2 hn hj o2 f2 W2 T2
    obtain ⟨j, ej⟩ : ∃ j : Nat, j0 = j := ⟨j0.toNat, by omega⟩
    subst ej
    have hV2 := hV.fi f2
    have cj := T2 k j hk (by omega)
    have ck := T2 k k hk (by omega)
    have vj : fv M2 (cel s k j) = A k j := cj.2.2.trans (if_neg (by omega))
    have vk : fv M2 (cel s k k) = A k k := ck.2.2.trans (if_neg (by omega))
    have hnz : sn M2 (cel s k k) ≠ 0 := fun q => hp (by
      rw [← vk]
      unfold fv
      rw [q]
      have : ((0 : Int) : Rat) = 0 := rfl
      grind)
    have z1 := cj.1.2.1.1.2.2.2.2.2.2
    have z2 := cj.1.2.2.1.1.2.2.2.2.2.2
    have z3 := ck.1.2.1.1.2.2.2.2.2.2
    have z4 := ck.1.2.2.1.1.2.2.2.2.2.2
    refine k_MS_solveRows_15 o2 ⟨by omega, by omega⟩ ⟨by omega, by omega⟩ ⟨fun c => by omega, fun _ => ⟨hV2.k0, (s_MS_cell (by omega) (by omega) o2 hV2).mono (fun x M3 h3 => ?_)⟩⟩
    obtain ⟨e3, hx⟩ := h3
    subst e3 hx
    refine ⟨o2, hV2.k0, (s_MS_cell (by omega) (by omega) o2 hV2).mono (fun x M4 h4 => ?_)⟩
    obtain ⟨e4, hx⟩ := h4
    subst e4 hx
    rw [hV2.r0]
    refine ⟨o2, W2.1.1.1, (s_MU_divide1 (d := d) o2 W2.1 cj.1 ck.1 (by unfold suO cel; omega) (by unfold suO cel; omega) hnz (by omega) (by omega)).mono (fun M5 h5 => ?_)⟩
    have hv5 := fv_div cj.1 ck.1 hnz h5
    rw [vj, vk] at hv5
    have hv6 : fv M5 (s + 1 + 1) = A k j * (A k k)⁻¹ := by
      have e := Rat.mul_inv_cancel _ hp
      rw [← hv5]
      grind
    obtain ⟨t1, t2, t3, t4, t5, -⟩ := h5
    have t2' : FI (fun x => s + 2 ≤ x ∧ x ≤ s + 21) M4 M5 := t2.mono (fun x q => by omega)
    have V5 := hV2.fi t2
    have W5 : Wk M5 s := W2.out t2' t3 (fun x q => by omega)
    have T5 := T2.out t2' (fun x q => by omega)
    have cj5 := T5 k j hk (by omega)
    have hsm := sml_size t4 t5 (by rw [hv6]; exact hS j (by omega) (by omega))
    refine ⟨t1, V5.k0, (s_MS_cell (by omega) (by omega) t1 V5).mono (fun x M6 h6 => ?_)⟩
    obtain ⟨e6, hx⟩ := h6
    subst e6 hx
    rw [V5.r0, t3.1.2.1]
    refine ⟨t1, V5.k0, t3.1.1, cj5.1.1.1, (s_MF_copy t1 cj5.1.ft t4 (by unfold cel; omega) hsm.1 hsm.2).mono (fun M7 h7 => ?_)⟩
    obtain ⟨w1, w2, w3, w4, w5, w6⟩ := h7
    have hf7 := fc_copy t5 w4 w5 w6
    have w2' : FI (cR s m) M6 M7 := w2.mono (fun x q => by have q' : cel s k j ≤ x ∧ x ≤ cel s k j + 4 := q; unfold cel at q'; omega)
    have T7 := T5.put hm hk (by omega) w2 w3 hf7.1 (hf7.2.trans hv6)
    rw [dvA_step] at T7
    exact ⟨w1, ih ((j : Int) + (-1)) M7 (by omega) (by omega) w1 ((f2.trans (t2'.mono (fun x q => by omega))).trans (w2'.mono (fun x q => by omega))) (W5.out w2' (t3.far w2' (fun x q => by omega)) (fun x q => by omega)) T7⟩
end VS
end
section
/-! The solver: all other rows are cleared of a column. -/
theorem Tb.congr {M : mM} {s m : Nat} {A B : Nat → Nat → Rat} (h : Tb M s m A) (e : ∀ a b, a < m → b ≤ m → A a b = B a b) : Tb M s m B := by
  intro a b ha hb
  obtain ⟨t1, t2, t3⟩ := h a b ha hb
  exact ⟨t1, t2, t3.trans (e a b ha hb)⟩
section VS
variable {G : mG} {d s m : Nat} {M : mM} {B : Nat → Nat → Rat}
abbrev elA (B : Nat → Nat → Rat) (k i : Nat) : Nat → Nat → Rat := fun a b => if a < i ∧ a ≠ k ∧ k ≤ b then B a b - B a k * B k b else B a b
theorem s_clear {k : Nat} {Q : mM → Prop} (hm : m ≤ 40) (hk : k < m) (hO : mOk M) (hV : Vk M s) (h24 : mI M s 24 = m) (hW : Wk M s) (hT : Tb M s m B) (hB : ∀ a b, a < m → b ≤ m → B a b ≤ 1 ∧ -1 ≤ B a b) (hS : ∀ a b, a < m → a ≠ k → k ≤ b → b ≤ m → Sml (B a b - B a k * B k b))
    (hQ : ∀ M', mOk M' → FI (cS s m) M M' → Wk M' s → Tb M' s m (elA B k m) → h_MS_solveRows_2 G (d + 5) s ((k : Int) + 1) M' Q) : h_MS_solveRows_63 G (d + 5) s k 0 M Q := by
  have hT0 : Tb M s m (elA B k 0) := hT.congr (fun a b ha hb => by
    show B a b = if a < 0 ∧ a ≠ k ∧ k ≤ b then _ else B a b
    rw [if_neg (by omega)])
  suffices H : ∀ (n i : Nat) (M2 : mM), i + n = m → mOk M2 → FI (cS s m) M M2 → Wk M2 s → Tb M2 s m (elA B k i) → h_MS_solveRows_63 G (d + 5) s k i M2 Q from
    H m 0 M (by omega) hO FI.refl hW hT0
  intro n
  induction n with
  | zero =>
    intro i M2 hn o2 f2 W2 T2
    have es : mI M2 s = mI M s := f2.2.2.2.2.2.2 s (by omega)
    have ei : i = m := by omega
    subst ei
    refine k_MS_solveRows_63 o2 ⟨by omega, by omega⟩ ⟨by omega, by omega⟩ ?_
    rw [es, h24]
    exact ⟨(hV.fi f2).k0, fun _ => hQ M2 o2 f2 W2 T2, fun c => by omega⟩
  | succ n ih =>
    intro i M2 hn o2 f2 W2 T2
    have hV2 := hV.fi f2
    have es : mI M2 s = mI M s := f2.2.2.2.2.2.2 s (by omega)
    have hi : i < m := by omega
    have c1 : ∀ b, elA B k i i b = B i b := fun b => if_neg (by omega)
    have c2 : ∀ b, elA B k i k b = B k b := fun b => if_neg (fun w => w.2.1 rfl)
    refine k_MS_solveRows_63 o2 ⟨by omega, by omega⟩ ⟨by omega, by omega⟩ ?_
    rw [es, h24]
    refine ⟨hV2.k0, fun c => by omega, fun _ => ⟨fun c => ih (i + 1) M2 (by omega) o2 f2 W2 (T2.congr (fun a b ha hb => ?_)), fun c => (s_MS_cell (by omega) (by omega) o2 hV2).mono (fun x M3 h3 => ?_)⟩⟩
    · show (if a < i ∧ a ≠ k ∧ k ≤ b then B a b - B a k * B k b else B a b) = if a < i + 1 ∧ a ≠ k ∧ k ≤ b then B a b - B a k * B k b else B a b
      by_cases q : a < i ∧ a ≠ k ∧ k ≤ b
      · rw [if_pos q, if_pos ⟨by omega, q.2⟩]
      · rw [if_neg q, if_neg (by omega)]
    · obtain ⟨e3, hx⟩ := h3
      subst e3 hx
      have hik : i ≠ k := by omega
      have ck := T2 i k hi (by omega)
      refine ⟨o2, ck.1.1.1, (s_MF_isZero o2 ck.1).mono (fun y M4 h4 => ?_)⟩
      obtain ⟨e4, hy⟩ := h4
      subst e4
      have hcc : ∀ a b, a < m → b ≤ m → elA B k i a b ≤ 1 ∧ -1 ≤ elA B k i a b := fun a b ha hb => by
        show (if a < i ∧ a ≠ k ∧ k ≤ b then B a b - B a k * B k b else B a b) ≤ 1 ∧ -1 ≤ (if a < i ∧ a ≠ k ∧ k ≤ b then B a b - B a k * B k b else B a b)
        by_cases q : a < i ∧ a ≠ k ∧ k ≤ b
        · rw [if_pos q]
          obtain ⟨E, z, _, _, _, h5, h6⟩ := hS a b ha q.2.1 q.2.2 hb
          exact ⟨h5, h6⟩
        · rw [if_neg q]
          exact hB a b ha hb
      refine ⟨⟨by split at hy <;> omega, by split at hy <;> omega⟩, o2, fun q => ⟨hV2.k0, ?_⟩, fun q => ?_⟩
      · refine (s_MS_clearColumn (d := d) hm hi hk hik o2 hV2 (by rw [es]; exact h24) W2 T2 hcc (fun b h1 h2 => by rw [c1, c1, c2]; exact hS i b hi hik h1 h2)).mono (fun M5 h5 => ?_)
        obtain ⟨w1, w2, w3, w4⟩ := h5
        refine ⟨w1, ih (i + 1) M5 (by omega) w1 (f2.trans w2) w3 (w4.congr (fun a b ha hb => ?_))⟩
        show (if a = i ∧ k ≤ b ∧ b < m + 1 then elA B k i i b - elA B k i i k * elA B k i k b else elA B k i a b) = if a < i + 1 ∧ a ≠ k ∧ k ≤ b then B a b - B a k * B k b else B a b
        rw [c1, c1, c2]
        by_cases z : a = i ∧ k ≤ b ∧ b < m + 1
        · rw [if_pos z, if_pos (by omega), z.1]
        · rw [if_neg z]
          show (if a < i ∧ a ≠ k ∧ k ≤ b then B a b - B a k * B k b else B a b) = _
          by_cases y : a < i ∧ a ≠ k ∧ k ≤ b
          · rw [if_pos y, if_pos (by omega)]
          · rw [if_neg y, if_neg (by omega)]
      · have hz : B i k = 0 := by
          have hs : sn M4 (cel s i k) = 0 := by
            by_cases w : sn M4 (cel s i k) = 0
            · exact w
            · rw [if_neg w] at hy; omega
          have e := ck.2.2
          rw [c1] at e
          rw [← e]
          unfold fv
          rw [hs]
          have : ((0 : Int) : Rat) = 0 := rfl
          grind
        refine ih (i + 1) M4 (by omega) o2 f2 W2 (T2.congr (fun a b ha hb => ?_))
        show (if a < i ∧ a ≠ k ∧ k ≤ b then B a b - B a k * B k b else B a b) = if a < i + 1 ∧ a ≠ k ∧ k ≤ b then B a b - B a k * B k b else B a b
        by_cases y : a < i ∧ a ≠ k ∧ k ≤ b
        · rw [if_pos y, if_pos (by omega)]
        · rw [if_neg y]
          by_cases z : a < i + 1 ∧ a ≠ k ∧ k ≤ b
          · have : a = i := by omega
            subst this
            rw [if_pos z, hz]
            grind
          · rw [if_neg z]
end VS
end
section
/-! The solver: all pivots. -/
/-- the table after k pivots -/
def tA (p : Nat → Nat → Rat) (m k : Nat) : Nat → Nat → Rat := fun i j => if j = m then gq p k i j else if j < k then (if i = j then 1 else 0) else (if i = j then 1 else 0) - gq p k i j
/-- m equations in m unknowns whose numbers stay small -/
def Sy (m : Nat) (p : Nat → Nat → Rat) (N : Nat → Nat → Int) (D : Nat → Int) : Prop := (∃ h, gok m 0 p h) ∧ (∀ r c, r < m → c ≤ m → (D r : Rat) * p r c = (N r c : Rat)) ∧ (∀ r, r < m → 0 < D r) ∧ (∀ i k, i < m → k ≤ m → D i * det k (bm N D) < 16777216 ^ 56 ∧ det k (bm N D) < 16777216 ^ 21)
section SY
variable {m : Nat} {p : Nat → Nat → Rat} {N : Nat → Nat → Int} {D : Nat → Int}
theorem sml_of {x : Rat} {i k : Nat} (h : Sy m p N D) (hi : i < m) (hk : k ≤ m) (he : ∃ z : Int, x * ((D i * det k (bm N D) : Int) : Rat) = (z : Rat)) (h1 : x ≤ 1) (h2 : -1 ≤ x) : Sml x := by
  obtain ⟨⟨h, g⟩, hp, hD, hE⟩ := h
  obtain ⟨z, hz⟩ := he
  exact ⟨_, z, Int.mul_pos (hD i hi) (det_pos g hp hD k hk), (hE i k hi hk).1, hz, h1, h2⟩
theorem Sy.q01 (h : Sy m p N D) {i j k : Nat} (hi : i < m) (hk : k ≤ j) (hj : j ≤ m) : 0 ≤ gq p k i j ∧ gq p k i j ≤ 1 := by
  obtain ⟨⟨h, g⟩, -⟩ := h
  have g2 := gok_all g k (by omega)
  refine ⟨g2.1 i j hi hk hj, ?_⟩
  have a := g2.2.1 i hi
  have b := sr_one (f := fun t => gq p k i (k + t)) (j := j - k) (m + 1 - k) (by omega) (fun c hc => g2.1 i _ hi (by omega) (by omega))
  have e : gq p k i (k + (j - k)) = gq p k i j := by rw [show k + (j - k) = j by omega]
  have b2 : gq p k i (k + (j - k)) ≤ sr (fun t => gq p k i (k + t)) (m + 1 - k) := b
  rw [e] at b2
  exact Rat.le_trans b2 a
theorem sml_one : Sml 1 := ⟨1, 1, by omega, by decide, by grind, by grind, by grind⟩
theorem sml_zero : Sml 0 := ⟨1, 0, by omega, by decide, by grind, by grind, by grind⟩
theorem tA_sml (h : Sy m p N D) {i j k : Nat} (hi : i < m) (hk : k ≤ m) (hj : j ≤ m) : Sml (tA p m k i j) := by
  unfold tA
  by_cases q : j = m
  · rw [if_pos q]
    have a := h.q01 hi (k := k) (by omega) hj
    obtain ⟨⟨h', g⟩, hp, -⟩ := id h
    exact sml_of h hi hk (gq_int2 g hp hk hj hi) a.2 (by grind)
  · rw [if_neg q]
    by_cases w : j < k
    · rw [if_pos w]
      by_cases e : i = j
      · rw [if_pos e]; exact sml_one
      · rw [if_neg e]; exact sml_zero
    · rw [if_neg w]
      have a := h.q01 hi (k := k) (by omega) hj
      obtain ⟨⟨h', g⟩, hp, -⟩ := id h
      obtain ⟨z, hz⟩ := gq_int2 g hp hk hj hi
      by_cases e : i = j
      · rw [if_pos e]
        refine sml_of h hi hk ⟨D i * det k (bm N D) - z, ?_⟩ (by grind) (by grind)
        rw [Rat.intCast_sub, ← hz]
        grind
      · rw [if_neg e]
        refine sml_of h hi hk ⟨- z, ?_⟩ (by grind) (by grind)
        rw [Rat.intCast_neg, ← hz]
        grind
theorem tA_m {k i : Nat} : tA p m k i m = gq p k i m := if_pos rfl
theorem tA_lt {k i j : Nat} (h : j < k) (h2 : j ≠ m) : tA p m k i j = if i = j then 1 else 0 := by
  unfold tA
  rw [if_neg h2, if_pos h]
theorem tA_ge {k i j : Nat} (h : k ≤ j) (h2 : j ≠ m) : tA p m k i j = (if i = j then 1 else 0) - gq p k i j := by
  unfold tA
  rw [if_neg h2, if_neg (by omega)]
theorem tA_row (h : Sy m p N D) {k b : Nat} (hk : k < m) (h1 : k ≤ b) (h2 : b ≤ m) : tA p m k k b * (tA p m k k k)⁻¹ = tA p m (k + 1) k b := by
  obtain ⟨⟨h', g⟩, -⟩ := h
  have hp := gok_pivot (gok_all g k (by omega)) hk
  have hw1 : (1 - gq p k k k) * (1 - gq p k k k)⁻¹ = 1 := Rat.mul_inv_cancel _ (by grind)
  have e0 : tA p m k k k = 1 - gq p k k k := by rw [tA_ge (by omega) (by omega), if_pos rfl]
  have hg : gq p (k + 1) k b = gq p k k b + gq p k k k * ((1 - gq p k k k)⁻¹ * gq p k k b) := rfl
  rw [e0]
  by_cases q : b = m
  · subst q
    rw [tA_m, tA_m, hg]
    generalize (1 - gq p k k k)⁻¹ = w at *
    grind
  · by_cases z : b = k
    · subst z
      rw [e0, tA_lt (by omega) q, if_pos rfl]
      exact hw1
    · rw [tA_ge (by omega) q, tA_ge (by omega) q, hg, if_neg (by omega)]
      generalize (1 - gq p k k k)⁻¹ = w at *
      grind
theorem tA_el (h : Sy m p N D) {k a b : Nat} (hk : k < m) (ha : a ≠ k) (h1 : k ≤ b) (h2 : b ≤ m) : tA p m k a b - tA p m k a k * tA p m (k + 1) k b = tA p m (k + 1) a b := by
  obtain ⟨⟨h', g⟩, -⟩ := h
  have hp := gok_pivot (gok_all g k (by omega)) hk
  have hw1 : (1 - gq p k k k) * (1 - gq p k k k)⁻¹ = 1 := Rat.mul_inv_cancel _ (by grind)
  have e0 : tA p m k a k = 0 - gq p k a k := by rw [tA_ge (by omega) (by omega), if_neg ha]
  have hg : ∀ i, gq p (k + 1) i b = gq p k i b + gq p k i k * ((1 - gq p k k k)⁻¹ * gq p k k b) := fun i => rfl
  rw [e0]
  by_cases q : b = m
  · subst q
    rw [tA_m, tA_m, tA_m, hg, hg]
    generalize (1 - gq p k k k)⁻¹ = w at *
    grind
  · by_cases z : b = k
    · subst z
      rw [e0, tA_lt (by omega) q, tA_lt (by omega) q, if_pos rfl, if_neg ha]
      grind
    · rw [tA_ge (by omega) q, tA_ge (by omega) q, tA_ge (by omega) q, hg, hg, if_neg (show ¬ k = b by omega)]
      generalize (1 - gq p k k k)⁻¹ = w at *
      by_cases y : a = b
      · rw [if_pos y]
        grind
      · rw [if_neg y]
        grind
theorem sml_b {x : Rat} (h : Sml x) : x ≤ 1 ∧ -1 ≤ x := by
  obtain ⟨E, z, -, -, -, h1, h2⟩ := h
  exact ⟨h1, h2⟩
end SY
section VS
variable {G : mG} {d s m : Nat} {M : mM} {p : Nat → Nat → Rat} {N : Nat → Nat → Int} {D : Nat → Int}
theorem s_MS_solveRows (hm : m ≤ 40) (hO : mOk M) (hV : Vk M s) (h24 : mI M s 24 = m) (hW : Wk M s) (h : Sy m p N D) (hT : Tb M s m (tA p m 0)) :
    Cv G y_MS_solveRows (d + 6) [vr s] M (fun M' => mOk M' ∧ FI (cS s m) M M' ∧ Wk M' s ∧ Tb M' s m (tA p m m)) := by
  refine k_MS_solveRows hO ?_
  suffices H : ∀ (n k : Nat) (M2 : mM), k + n = m → mOk M2 → FI (cS s m) M M2 → Wk M2 s → Tb M2 s m (tA p m k) → h_MS_solveRows_2 G (d + 5) s k M2 (fun M' => mOk M' ∧ FI (cS s m) M M' ∧ Wk M' s ∧ Tb M' s m (tA p m m)) from
    H m 0 M (by omega) hO FI.refl hW hT
  intro n
  induction n with
  | zero =>
    intro k M2 hn o2 f2 W2 T2
    have es : mI M2 s = mI M s := f2.2.2.2.2.2.2 s (by omega)
    have ek : k = m := by omega
    subst ek
    refine k_MS_solveRows_2 o2 ⟨by omega, by omega⟩ ?_
    rw [es, h24]
    exact ⟨(hV.fi f2).k0, fun _ => ⟨o2, f2, W2, T2⟩, fun c => by omega⟩
  | succ n ih =>
    intro k M2 hn o2 f2 W2 T2
    have hV2 := hV.fi f2
    have es : mI M2 s = mI M s := f2.2.2.2.2.2.2 s (by omega)
    have hk : k < m := by omega
    refine k_MS_solveRows_2 o2 ⟨by omega, by omega⟩ ?_
    rw [es, h24]
    refine ⟨hV2.k0, fun c => by omega, fun _ => ?_⟩
    have hpv : tA p m k k k ≠ 0 := by
      obtain ⟨⟨h', g⟩, -⟩ := h
      have hp := gok_pivot (gok_all g k (by omega)) hk
      have e0 : tA p m k k k = 1 - gq p k k k := by
        unfold tA
        rw [if_neg (by omega), if_neg (by omega), if_pos rfl]
      rw [e0]
      grind
    refine s_row (d := d + 1) hm hk o2 hV2 W2 T2 hpv (fun b h1 h2 => by rw [tA_row h hk h1 h2]; exact tA_sml h hk (by omega) h2) (fun M3 o3 f3 W3 T3 => ?_)
    have hB : ∀ a b, a < m → b ≤ m → dvA (tA p m k) k ((k : Int) + (-1)) a b = if a = k then tA p m (k + 1) k b else tA p m k a b := by
      intro a b ha hb
      show (if a = k ∧ (k : Int) + (-1) < (b : Int) then tA p m k k b * (tA p m k k k)⁻¹ else tA p m k a b) = _
      by_cases q : a = k
      · rw [if_pos q]
        by_cases z : k ≤ b
        · rw [if_pos ⟨q, by omega⟩, tA_row h hk z hb]
        · rw [if_neg (by omega), q]
          rw [tA_lt (by omega) (by omega), tA_lt (by omega) (by omega)]
      · rw [if_neg q, if_neg (by omega)]
    have T3' := T3.congr hB
    have es3 : mI M3 s = mI M2 s := f3.2.2.2.2.2.2 s (by omega)
    refine s_clear (d := d) hm hk o3 (hV2.fi f3) (by rw [es3, es, h24]) W3 T3' (fun a b ha hb => ?_) (fun a b ha hak h1 h2 => ?_) (fun M4 o4 f4 W4 T4 => ?_)
    · by_cases q : a = k
      · rw [if_pos q]; exact sml_b (tA_sml h hk (by omega) hb)
      · rw [if_neg q]; exact sml_b (tA_sml h ha (by omega) hb)
    · rw [if_neg hak, if_neg hak, if_pos rfl, tA_el h hk hak h1 h2]
      exact tA_sml h ha (by omega) h2
    · refine ih (k + 1) M4 (by omega) o4 ((f2.trans f3).trans f4) W4 (T4.congr (fun a b ha hb => ?_))
      show (if a < m ∧ a ≠ k ∧ k ≤ b then (if a = k then tA p m (k + 1) k b else tA p m k a b) - (if a = k then tA p m (k + 1) k k else tA p m k a k) * (if k = k then tA p m (k + 1) k b else tA p m k k b) else (if a = k then tA p m (k + 1) k b else tA p m k a b)) = tA p m (k + 1) a b
      by_cases q : a = k
      · rw [if_neg (by omega), if_pos q, q]
      · rw [if_neg q, if_neg q, if_pos rfl]
        by_cases z : k ≤ b
        · rw [if_pos ⟨ha, q, z⟩, tA_el h hk q z hb]
        · rw [if_neg (by omega)]
          rw [tA_lt (by omega) (by omega), tA_lt (by omega) (by omega)]
end VS
end
section
/-! What a command is worth: a sum over its branches. -/
theorem sr_lt {f g : Nat → Rat} : ∀ (n : Nat), (∀ j, j < n → f j ≤ g j) → (∃ j, j < n ∧ f j < g j) → sr f n < sr g n
  | 0, _, h => by obtain ⟨j, h, _⟩ := h; omega
  | n + 1, h, h2 => by
    obtain ⟨j, h3, h4⟩ := h2
    rw [sr, sr]
    by_cases q : j = n
    · subst q
      have a := sr_le j (fun i hi => h i (by omega))
      grind
    · have a := sr_lt n (fun i hi => h i (by omega)) ⟨j, by omega, h4⟩
      have b := h n (by omega)
      grind
/-- the chance of branch b -/
def chq (M : mM) (s b : Nat) : Rat := (mI M (s + 27) b : Rat) * (mI M (s + 28) b : Rat)⁻¹
/-- where the branches of command c begin, how many they are, where branch b leads -/
def bg (M : mM) (s c : Nat) : Nat := (mI M (s + 25) c).toNat
def nb (M : mM) (s c : Nat) : Nat := (mI M (s + 25) (c + 1) - mI M (s + 25) c).toNat
def tg (M : mM) (s b : Nat) : Nat := (mI M (s + 26) b).toNat
def cx (M : mM) (s k i : Nat) : Nat := (mI M (s + 23) k).toNat + i
def cw (M : mM) (s c : Nat) (f : Nat → Rat) : Rat := sr (fun b => chq M s (bg M s c + b) * f (tg M s (bg M s c + b))) (nb M s c)
/-- the chances of each command are sound -/
def GB (M : mM) (s : Nat) : Prop := ∀ c : Nat, (c : Int) < mI M s 2 → (1 ≤ mI M (s + 24) c ∧ mI M (s + 24) c < 1000000000 ∧ nb M s c ≤ 8) ∧ (∀ b, b < nb M s c → 0 < mI M (s + 27) (bg M s c + b) ∧ 0 < mI M (s + 28) (bg M s c + b) ∧ mI M (s + 28) (bg M s c + b) ∣ mI M (s + 24) c) ∧ sm (fun b => mI M (s + 27) (bg M s c + b) * (mI M (s + 24) c / mI M (s + 28) (bg M s c + b))) (nb M s c) = mI M (s + 24) c
/-- nothing of the game has changed -/
def sameG (M M' : mM) (s : Nat) : Prop := mI M' s 1 = mI M s 1 ∧ mI M' s 2 = mI M s 2 ∧ mI M' s 3 = mI M s 3 ∧ ∀ x, s + 22 ≤ x → x ≤ s + 28 → mI M' x = mI M x
theorem sameG.of {S : Nat → Prop} {M M' : mM} {s : Nat} (f : FI S M M') (h0 : ¬ S s) (h1 : ∀ x, s + 22 ≤ x → x ≤ s + 28 → ¬ S x) : sameG M M' s := by
  have f := f.2.2.2.2.2.2
  exact ⟨by rw [f s h0], by rw [f s h0], by rw [f s h0], fun x a b => f x (h1 x a b)⟩
theorem sameG.trans {M M' M'' : mM} {s : Nat} (h : sameG M M' s) (h' : sameG M' M'' s) : sameG M M'' s :=
  ⟨h'.1.trans h.1, h'.2.1.trans h.2.1, h'.2.2.1.trans h.2.2.1, fun x a b => (h'.2.2.2 x a b).trans (h.2.2.2 x a b)⟩
theorem sameG.refl {M : mM} {s : Nat} : sameG M M s := ⟨rfl, rfl, rfl, fun _ _ _ => rfl⟩
section SG
variable {M M' : mM} {s : Nat}
theorem sameG.gw (h : sameG M M' s) (g : GW M s) : GW M' s := by
  unfold GW at g ⊢
  rw [h.1, h.2.1, h.2.2.1, h.2.2.2 (s + 23) (by omega) (by omega), h.2.2.2 (s + 25) (by omega) (by omega), h.2.2.2 (s + 26) (by omega) (by omega)]
  exact g
theorem sameG.hq (h : sameG M M' s) : chq M' s = chq M s := by
  funext b
  unfold chq
  rw [h.2.2.2 (s + 27) (by omega) (by omega), h.2.2.2 (s + 28) (by omega) (by omega)]
theorem sameG.hb (h : sameG M M' s) : bg M' s = bg M s := by
  funext c
  unfold bg
  rw [h.2.2.2 (s + 25) (by omega) (by omega)]
theorem sameG.hn (h : sameG M M' s) : nb M' s = nb M s := by
  funext c
  unfold nb
  rw [h.2.2.2 (s + 25) (by omega) (by omega)]
theorem sameG.ht (h : sameG M M' s) : tg M' s = tg M s := by
  funext c
  unfold tg
  rw [h.2.2.2 (s + 26) (by omega) (by omega)]
theorem sameG.hx (h : sameG M M' s) : cx M' s = cx M s := by
  funext k i
  unfold cx
  rw [h.2.2.2 (s + 23) (by omega) (by omega)]
theorem sameG.hw (h : sameG M M' s) : cw M' s = cw M s := by
  funext c f
  unfold cw
  rw [h.hq, h.hb, h.hn, h.ht]
theorem sameG.gb (h : sameG M M' s) (g : GB M s) : GB M' s := by
  unfold GB at g ⊢
  rw [h.2.1, h.hn, h.hb, h.2.2.2 (s + 24) (by omega) (by omega), h.2.2.2 (s + 27) (by omega) (by omega), h.2.2.2 (s + 28) (by omega) (by omega)]
  exact g
theorem sameG.hm (h : sameG M M' s) : mny M' s = mny M s := by
  funext k
  unfold mny
  rw [h.2.2.2 (s + 23) (by omega) (by omega)]
end SG
section CW
variable {M : mM} {s c : Nat}
theorem GB.chq_pos (h : GB M s) (hc : (c : Int) < mI M s 2) {b : Nat} (hb : b < nb M s c) : 0 < chq M s (bg M s c + b) := by
  obtain ⟨h1, h2, -⟩ := (h c hc).2.1 b hb
  exact Rat.mul_pos (Rat.intCast_pos.2 h1) (Rat.inv_pos.2 (Rat.intCast_pos.2 h2))
theorem GB.chq_int (h : GB M s) (hc : (c : Int) < mI M s 2) {b : Nat} (hb : b < nb M s c) : (mI M (s + 24) c : Rat) * chq M s (bg M s c + b) = ((mI M (s + 27) (bg M s c + b) * (mI M (s + 24) c / mI M (s + 28) (bg M s c + b)) : Int) : Rat) := by
  obtain ⟨h1, h2, h3⟩ := (h c hc).2.1 b hb
  have e := Int.mul_ediv_cancel' h3
  have e2 : (mI M (s + 24) c : Rat) = (mI M (s + 28) (bg M s c + b) : Rat) * ((mI M (s + 24) c / mI M (s + 28) (bg M s c + b) : Int) : Rat) := by rw [← Rat.intCast_mul, e]
  have e3 := Rat.mul_inv_cancel _ (ic_ne h2)
  unfold chq
  rw [Rat.intCast_mul]
  generalize ((mI M (s + 24) c / mI M (s + 28) (bg M s c + b) : Int) : Rat) = z at *
  generalize (mI M (s + 28) (bg M s c + b) : Rat)⁻¹ = w at *
  generalize (mI M (s + 28) (bg M s c + b) : Rat) = v at *
  generalize (mI M (s + 27) (bg M s c + b) : Rat) = y at *
  rw [e2]
  grind
theorem cw_le (h : GB M s) (hc : (c : Int) < mI M s 2) {f g : Nat → Rat} (hf : ∀ b, b < nb M s c → f (tg M s (bg M s c + b)) ≤ g (tg M s (bg M s c + b))) : cw M s c f ≤ cw M s c g := by
  refine sr_le _ (fun b hb => ?_)
  have a := Rat.mul_nonneg (Rat.le_of_lt (h.chq_pos hc hb)) (b := g (tg M s (bg M s c + b)) - f (tg M s (bg M s c + b))) (by have := hf b hb; grind)
  grind
theorem cw_lt (h : GB M s) (hc : (c : Int) < mI M s 2) {f g : Nat → Rat} (hf : ∀ b, b < nb M s c → f (tg M s (bg M s c + b)) ≤ g (tg M s (bg M s c + b))) (hl : ∃ b, b < nb M s c ∧ f (tg M s (bg M s c + b)) < g (tg M s (bg M s c + b))) : cw M s c f < cw M s c g := by
  refine sr_lt _ (fun b hb => ?_) ?_
  · have a := Rat.mul_nonneg (Rat.le_of_lt (h.chq_pos hc hb)) (b := g (tg M s (bg M s c + b)) - f (tg M s (bg M s c + b))) (by have := hf b hb; grind)
    grind
  · obtain ⟨b, hb, hl⟩ := hl
    have a := Rat.mul_pos (h.chq_pos hc hb) (b := g (tg M s (bg M s c + b)) - f (tg M s (bg M s c + b))) (by grind)
    exact ⟨b, hb, by grind⟩
theorem cw_congr {f g : Nat → Rat} (hf : ∀ b, b < nb M s c → f (tg M s (bg M s c + b)) = g (tg M s (bg M s c + b))) : cw M s c f = cw M s c g := by
  refine sr_congr _ (fun b hb => ?_)
  rw [hf b hb]
theorem cw_add {f g : Nat → Rat} : cw M s c (fun k => f k + g k) = cw M s c f + cw M s c g := by
  unfold cw
  rw [← sr_add]
  exact sr_congr _ (fun b hb => by grind)
theorem cw_mul {x : Rat} {f : Nat → Rat} : cw M s c (fun k => x * f k) = x * cw M s c f := by
  unfold cw
  rw [← sr_mul]
  exact sr_congr _ (fun b hb => by grind)
theorem cw_int (h : GB M s) (hc : (c : Int) < mI M s 2) {f : Nat → Int} : (mI M (s + 24) c : Rat) * cw M s c (fun k => (f k : Rat)) = ((sm (fun b => mI M (s + 27) (bg M s c + b) * (mI M (s + 24) c / mI M (s + 28) (bg M s c + b)) * f (tg M s (bg M s c + b))) (nb M s c) : Int) : Rat) := by
  unfold cw
  rw [sm_cast, ← sr_mul]
  refine sr_congr _ (fun b hb => ?_)
  have e := h.chq_int hc hb
  rw [Rat.intCast_mul, ← e]
  grind
theorem cw_one (h : GB M s) (hc : (c : Int) < mI M s 2) : cw M s c (fun _ => 1) = 1 := by
  have e := cw_int h hc (f := fun _ => 1)
  have e2 : sm (fun b => mI M (s + 27) (bg M s c + b) * (mI M (s + 24) c / mI M (s + 28) (bg M s c + b)) * 1) (nb M s c) = mI M (s + 24) c := by
    rw [sm_congr (g := fun b => mI M (s + 27) (bg M s c + b) * (mI M (s + 24) c / mI M (s + 28) (bg M s c + b))) _ (fun b hb => by omega)]
    exact (h c hc).2.2
  have e1 : cw M s c (fun _ => 1) = cw M s c (fun k => (((fun _ => 1) k : Int) : Rat)) := rfl
  rw [e2] at e
  rw [e1]
  have hp := (h c hc).1.1
  have e3 := Rat.inv_mul_cancel _ (ic_ne (x := mI M (s + 24) c) (by omega))
  generalize (mI M (s + 24) c : Rat) = v at *
  generalize cw M s c (fun k => (((fun _ => 1) k : Int) : Rat)) = w at *
  have e4 : v⁻¹ * (v * w) = v⁻¹ * v := by rw [e]
  grind
theorem cw_const (h : GB M s) (hc : (c : Int) < mI M s 2) {x : Rat} : cw M s c (fun _ => x) = x := by
  have e := cw_mul (M := M) (s := s) (c := c) (x := x) (f := fun _ => 1)
  rw [cw_one h hc] at e
  have e1 : cw M s c (fun _ => x) = cw M s c (fun _ => x * 1) := cw_congr (fun b hb => by grind)
  rw [e1, e]
  grind
end CW
/-- a value that k parts hold -/
def Smp (k : Nat) (x : Rat) : Prop := ∃ E z : Int, 0 < E ∧ E < 16777216 ^ k ∧ x * (E : Rat) = (z : Rat) ∧ x ≤ 1 ∧ -1 ≤ x
theorem smp_size {M : mM} {f r k : Nat} (hF : Fq M f r) (hC : Fc M f) (h : Smp k (fv M f)) : mI M (f + 1) 1 ≤ k ∧ mI M (f + 3) 1 ≤ k := by
  obtain ⟨E, z, h0, h1, h2, h3, h4⟩ := h
  have b := fv_abs hF h3 h4
  exact fc_size hF hC h2 h0 h1 b.1 b.2
theorem smp_fq {M : mM} {f : Nat} (hF : Fq M f 56) (h1 : fv M f ≤ 1) (h2 : -1 ≤ fv M f) : Smp 56 (fv M f) := by
  have p : 0 < sd M f := hF.2.2.2.2
  refine ⟨sd M f, sn M f, p, ?_, fv_sd hF, h1, h2⟩
  exact Int.lt_of_lt_of_le hF.2.2.1.lt (pow_mono (by have := hF.2.2.1.1.2.2.2.2.2.2; omega))
theorem smp_mul {x : Rat} {k : Nat} {u v : Int} (h : Smp k x) (h1 : 0 ≤ u) (h2 : u ≤ v) (h3 : 0 < v) (h4 : v < 1000000000) : Smp (k + 2) ((u : Rat) * (v : Rat)⁻¹ * x) := by
  obtain ⟨E, z, e0, e1, e2, e3, e4⟩ := h
  have hv : (0 : Rat) < (v : Rat) := Rat.intCast_pos.2 h3
  have hi := Rat.mul_inv_cancel _ (ic_ne h3)
  have hi0 : (0 : Rat) < (v : Rat)⁻¹ := Rat.inv_pos.2 hv
  have c0 : (0 : Rat) ≤ (u : Rat) := by exact_mod_cast h1
  have c1 : (u : Rat) ≤ (v : Rat) := by exact_mod_cast h2
  have b1 : (u : Rat) * (v : Rat)⁻¹ ≤ 1 := by
    have a := Rat.mul_nonneg (a := (v : Rat) - (u : Rat)) (by grind) (Rat.le_of_lt hi0)
    grind
  have b2 : 0 ≤ (u : Rat) * (v : Rat)⁻¹ := Rat.mul_nonneg c0 (Rat.le_of_lt hi0)
  have b3 := abs_mul1 b1 (by grind) e3 e4
  refine ⟨v * E, u * z, Int.mul_pos h3 e0, ?_, ?_, b3.1, b3.2⟩
  · rw [show (16777216 : Int) ^ (k + 2) = 16777216 ^ 2 * 16777216 ^ k by rw [Int.pow_add, Int.mul_comm]]
    exact mul_lt_B (by omega) e1 (by omega) (by omega)
  · rw [Rat.intCast_mul, Rat.intCast_mul, ← e2]
    grind
theorem smp_add {x y : Rat} {k l : Nat} (h : Smp k x) (h' : Smp l y) (h1 : x + y ≤ 1) (h2 : -1 ≤ x + y) : Smp (k + l) (x + y) := by
  obtain ⟨E, z, e0, e1, e2, e3, e4⟩ := h
  obtain ⟨E', z', e0', e1', e2', e3', e4'⟩ := h'
  refine ⟨E * E', z * E' + z' * E, Int.mul_pos e0 e0', ?_, ?_, h1, h2⟩
  · rw [Int.pow_add]
    exact mul_lt_B e1 e1' (by omega) (by omega)
  · rw [Rat.intCast_mul, Rat.intCast_add, Rat.intCast_mul, Rat.intCast_mul, ← e2, ← e2']
    grind
end
section
/-! The solver: what a command is worth. -/
theorem sr_part {f : Nat → Rat} {a : Nat} : ∀ (n : Nat), (∀ c, c < a + n → 0 ≤ f c) → sr f a ≤ sr f (a + n)
  | 0, _ => Rat.le_refl
  | n + 1, h => by
    have h1 := sr_part (f := f) (a := a) n (fun c hc => h c (by omega))
    have h2 := h (a + n) (by omega)
    have e : sr f (a + (n + 1)) = sr f (a + n) + f (a + n) := rfl
    grind
theorem fc_one {M : mM} {f r : Nat} (hF : Fq M f r) (h1 : sd M f = 1) (h2 : sn M f = 0 → mI M f 2 = 0) : Fc M f := by
  have e4 : xn M (f + 3) = 1 := by
    have : sd M f = wv M (f + 3) := rfl
    unfold xn
    omega
  refine ⟨by rw [e4]; exact Nat.gcd_one_right _, fun q => h2 ?_⟩
  unfold sn
  rw [q]
  split <;> rfl
theorem alg_ud {U V y : Rat} (q : V * y = 1) (w : 0 ≤ (1 - U * y) * V) : U ≤ V := by
  have e : (1 - U * y) * V = V - U * (V * y) := by grind
  rw [e, q] at w
  grind
theorem ud_le {u v : Int} (h : 0 < v) (h2 : (u : Rat) * (v : Rat)⁻¹ ≤ 1) : u ≤ v := by
  have p : (0 : Rat) < (v : Rat) := Rat.intCast_pos.2 h
  have q := Rat.mul_inv_cancel _ (ic_ne h)
  have w := Rat.mul_nonneg (a := 1 - (u : Rat) * (v : Rat)⁻¹) (by grind) (Rat.le_of_lt p)
  exact ic_le (alg_ud q w)
/-- n fractions hold x -/
def Xt (M : mM) (s e n : Nat) (x : Nat → Rat) : Prop := ∀ k, k < n → Fq M (s + e + 25 * k) 56 ∧ Fc M (s + e + 25 * k) ∧ fv M (s + e + 25 * k) = x k
theorem Xt.out {S : Nat → Prop} {M M' : mM} {s e n : Nat} {x : Nat → Rat} (h : Xt M s e n x) (k : FI S M M') (hs : ∀ y, S y → y < s + e ∨ s + e + 25 * n ≤ y) : Xt M' s e n x := by
  intro i hi
  obtain ⟨h1, h2, h3⟩ := h i hi
  have hs' : ∀ y, S y → y < s + e + 25 * i ∨ s + e + 25 * i + 4 < y := fun y q => by have := hs y q; omega
  exact ⟨(h1.out k hs').1, h2.out h1 k hs', by rw [fv_out h1 k hs', h3]⟩
abbrev wS (s : Nat) : Nat → Prop := fun x => (s + 2 ≤ x ∧ x ≤ s + 21) ∨ (s + 42 ≤ x ∧ x ≤ s + 46) ∨ (s + 52 ≤ x ∧ x ≤ s + 61)
theorem Wk.far {S : Nat → Prop} {M M' : mM} {s : Nat} (h : Wk M s) (k : FI S M M') (hs : ∀ x, S x → s + 22 ≤ x ∧ x < s + 42 ∨ s + 66 < x ∨ x ≤ s) : Wk M' s :=
  h.out k (h.1.far k (fun x q => by have := hs x q; omega)) (fun x q => by have := hs x q; omega)
/-- one of the solver's fractions is written -/
theorem Wk.put {M M' : mM} {s a r : Nat} (h : Wk M s) (k : FI (fS a) M M') (hf : Ft M' a r) (ha : (a = s + 42 ∧ r = 8) ∨ (a = s + 47 ∧ r = 56) ∨ ((a = s + 52 ∨ a = s + 57 ∨ a = s + 62) ∧ r = 900)) : Wk M' s := by
  have hk : ∀ y, fS a y → a ≤ y ∧ y ≤ a + 4 := fun y q => q
  have h0 := h.1.far k (fun x q => by have := hk x q; omega)
  obtain ⟨-, h1, h2, h3, h4, h5⟩ := h
  rcases ha with ⟨ha, hr⟩ | ⟨ha, hr⟩ | ⟨ha | ha | ha, hr⟩ <;> subst ha hr
  · exact ⟨h0, hf, h2.out k (fun x q => by have := hk x q; omega), h3.out k (fun x q => by have := hk x q; omega), h4.out k (fun x q => by have := hk x q; omega), h5.out k (fun x q => by have := hk x q; omega)⟩
  · exact ⟨h0, h1.out k (fun x q => by have := hk x q; omega), hf, h3.out k (fun x q => by have := hk x q; omega), h4.out k (fun x q => by have := hk x q; omega), h5.out k (fun x q => by have := hk x q; omega)⟩
  · exact ⟨h0, h1.out k (fun x q => by have := hk x q; omega), h2.out k (fun x q => by have := hk x q; omega), hf, h4.out k (fun x q => by have := hk x q; omega), h5.out k (fun x q => by have := hk x q; omega)⟩
  · exact ⟨h0, h1.out k (fun x q => by have := hk x q; omega), h2.out k (fun x q => by have := hk x q; omega), h3.out k (fun x q => by have := hk x q; omega), hf, h5.out k (fun x q => by have := hk x q; omega)⟩
  · exact ⟨h0, h1.out k (fun x q => by have := hk x q; omega), h2.out k (fun x q => by have := hk x q; omega), h3.out k (fun x q => by have := hk x q; omega), h4.out k (fun x q => by have := hk x q; omega), hf⟩
/-- what worthOf leaves behind -/
def woG (p : Nat) (M : mM) (s c : Nat) (x : Nat → Rat) (M' : mM) : Prop := mOk M' ∧ FI (wS s) M M' ∧ Wk M' s ∧ Fq M' (s + 52) 900 ∧ Fc M' (s + 52) ∧ fv M' (s + 52) = cw M s c x ∧ Smp ((p + 2) * 8 + 1) (cw M s c x)
abbrev woQ (M : mM) (s c : Nat) (x : Nat → Rat) : mM → Prop := woG 56 M s c x
section VS
variable {G : mG} {d s n : Nat} {M : mM} {x : Nat → Rat}
theorem s_worthG {k i B st e p : Nat} (hp : p ≤ 56) (hxs : ∀ t, t < n → Smp p (x t)) (hB : (B = s + 38 ∧ st = 1 ∧ e = 88) ∨ (B = s + 29 ∧ st = 3 ∧ e = 68)) (hO : mOk M) (hV : Vk M s) (hG : GW M s) (hC : GB M s) (hn : mI M s 1 = n) (hk : (k : Int) < mI M s 1) (hi : (i : Int) < mny M s k) (hW : Wk M s) (hX : Xt M s e n x) (h01 : ∀ t, t < n → 0 ≤ x t ∧ x t ≤ 1) :
    Cv G y_MS_worthOf (d + 5) [vr s, vi k, vi i, vr B, vi 0, vi st] M (woG p M s (cx M s k i) x) := by
  have hc := hG.cmd hk
  have hi' := hi
  unfold mny at hi'
  have hcx : (cx M s k i : Int) = mI M (s + 23) k + i := by unfold cx; omega
  have hc2 : (cx M s k i : Int) < mI M s 2 := by omega
  have hb := hG.brn hc2
  have h2 := hG.2.1
  have h3 := hG.2.2.1
  have h4 := hG.2.2.2.1
  have ht := hG.2.2.2.2.2.2.2.2.2.2
  have ebg : (bg M s (cx M s k i) : Int) = mI M (s + 25) (cx M s k i) := by unfold bg; omega
  have enb : (nb M s (cx M s k i) : Int) = mI M (s + 25) (cx M s k i + 1) - mI M (s + 25) (cx M s k i) := by unfold nb; omega
  have hn8 := (hC _ hc2).1.2.2
  have hm := (hC _ hc2).1.2.1
  have hm1 := (hC _ hc2).1.1
  have hbr := (hC _ hc2).2.1
  generalize hcc : cx M s k i = c at *
  have htg : ∀ b, b < nb M s c → tg M s (bg M s c + b) < n ∧ (tg M s (bg M s c + b) : Int) = mI M (s + 26) (bg M s c + b) := fun b hb => by
    have := ht (bg M s c + b) (by omega)
    unfold tg
    omega
  have hle : cw M s c x ≤ 1 := by
    have a := cw_le hC hc2 (f := x) (g := fun _ => 1) (fun b hb => (h01 _ (htg b hb).1).2)
    rw [cw_one hC hc2] at a
    exact a
  have hnn : ∀ b, b < nb M s c → 0 ≤ chq M s (bg M s c + b) * x (tg M s (bg M s c + b)) := fun b hb => Rat.mul_nonneg (Rat.le_of_lt (hC.chq_pos hc2 hb)) (h01 _ (htg b hb).1).1
  have hpart : ∀ b, b ≤ nb M s c → 0 ≤ sr (fun b => chq M s (bg M s c + b) * x (tg M s (bg M s c + b))) b ∧ sr (fun b => chq M s (bg M s c + b) * x (tg M s (bg M s c + b))) b ≤ 1 := fun b hb => by
    refine ⟨sr_nonneg b (fun j hj => hnn j (by omega)), ?_⟩
    have a := sr_part (f := fun b => chq M s (bg M s c + b) * x (tg M s (bg M s c + b))) (a := b) (nb M s c - b) (fun j hj => hnn j (by omega))
    rw [show b + (nb M s c - b) = nb M s c by omega] at a
    exact Rat.le_trans a hle
  refine k_MS_worthOf hO ⟨by omega, by omega⟩ ⟨by omega, by omega⟩ ⟨by omega, by omega⟩ ⟨by omega, by omega⟩ ?_
  rw [hV.r5, hV.n23, hV.r28, Int.toNat_natCast, ← hcx]
  refine ⟨hV.k0, hV.k23, by omega, hW.2.2.2.1.1.1, (s_MF_set ⟨by omega, by omega⟩ (by omega) ⟨by omega, by omega⟩ (by omega) hO hW.2.2.2.1 (by omega)).mono (fun M1 h1 => ?_)⟩
  obtain ⟨o1, f1, F1, v1, v2, v3⟩ := h1
  have f1' : FI (wS s) M M1 := f1.mono (fun y q => by have : s + 52 ≤ y ∧ y ≤ s + 52 + 4 := q; omega)
  have V1 := hV.fi f1
  have G1 : sameG M M1 s := sameG.of f1' (by omega) (fun y _ _ => by omega)
  have W1 : Wk M1 s := hW.put f1 F1.ft (by omega)
  have C1 := fc_one F1 v2 (fun _ => v3 rfl)
  have e1 : fv M1 (s + 52) = 0 := by
    rw [fv_set v1 v2]
    have : ((0 : Int) : Rat) = 0 := rfl
    grind
  rw [V1.r7, V1.n25, Int.toNat_natCast, G1.2.2.2 (s + 25) (by omega) (by omega)]
  refine ⟨o1, V1.k0, V1.k25, by omega, ?_⟩
  have X1 := hX.out f1' (fun y q => by omega)
  suffices H : ∀ (r b : Nat) (M2 : mM), b + r = nb M s c → mOk M2 → FI (wS s) M M2 → Wk M2 s → Fq M2 (s + 52) 900 → Fc M2 (s + 52) → fv M2 (s + 52) = sr (fun b => chq M s (bg M s c + b) * x (tg M s (bg M s c + b))) b → Smp ((p + 2) * b + 1) (fv M2 (s + 52)) → h_MS_worthOf_28 G (d + 4) s B 0 st c (mI M (s + 25) c + b) M2 (woG p M s c x) by
    have a := H (nb M s c) 0 M1 (by omega) o1 f1' W1 F1 C1 e1 ⟨1, 0, by omega, by rw [Nat.mul_zero]; decide, by rw [e1]; grind, by rw [e1]; decide, by rw [e1]; decide⟩
    rw [show mI M (s + 25) c + ((0 : Nat) : Int) = mI M (s + 25) c by omega] at a
    exact a
  clear e1 C1 W1 G1 V1 f1' v3 v2 v1 F1 f1 o1 X1 M1
  intro r
  induction r with
  | zero =>
    intro b M2 hr o2 f2 W2 F2 C2 e2 S2
    have V2 := hV.fi f2
    have G2 : sameG M M2 s := sameG.of f2 (by omega) (fun y _ _ => by omega)
    have eb : b = nb M s c := by omega
    subst eb
    refine k_MS_worthOf_28 o2 ⟨by omega, by omega⟩ ⟨by omega, by omega⟩ ⟨by omega, by omega⟩ ⟨by omega, by omega⟩ ?_
    rw [V2.r7, V2.n25, G2.2.2.2 (s + 25) (by omega) (by omega), show ((c : Int) + 1).toNat = c + 1 by omega]
    refine ⟨V2.k0, V2.k25, by omega, fun _ => ⟨o2, f2, W2, F2, C2, e2, ?_⟩, fun q => by omega⟩
    have e3 : fv M2 (s + 52) = cw M s c x := e2
    rw [e3] at S2
    obtain ⟨E, z, a0, a1, a2⟩ := S2
    exact ⟨E, z, a0, Int.lt_of_lt_of_le a1 (pow_mono (Nat.add_le_add_right (Nat.mul_le_mul_left _ hn8) 1)), a2⟩
  | succ r ih =>
    intro b M2 hr o2 f2 W2 F2 C2 e2 S2
    have hbn : b < nb M s c := by omega
    have V2 := hV.fi f2
    have G2 : sameG M M2 s := sameG.of f2 (by omega) (fun y _ _ => by omega)
    have X2 := hX.out f2 (fun y q => by omega)
    obtain ⟨u0, u1, u2⟩ := hbr b hbn
    have u3 : mI M (s + 28) (bg M s c + b) ≤ mI M (s + 24) c := Int.le_of_dvd (by omega) u2
    have u4 : mI M (s + 27) (bg M s c + b) ≤ mI M (s + 28) (bg M s c + b) := by
      have a := sr_one (f := fun b => chq M s (bg M s c + b) * (fun _ => 1) (tg M s (bg M s c + b))) (nb M s c) hbn (fun j hj => Rat.mul_nonneg (Rat.le_of_lt (hC.chq_pos hc2 hj)) (by grind))
      have a1 := cw_one hC hc2
      unfold cw at a1
      rw [a1] at a
      have a2 : chq M s (bg M s c + b) ≤ 1 := by
        have a3 : chq M s (bg M s c + b) * 1 ≤ 1 := a
        rw [Rat.mul_one] at a3
        exact a3
      exact ud_le u1 a2
    have ebb : (mI M (s + 25) c + (b : Int)).toNat = bg M s c + b := by omega
    obtain ⟨t1, t2⟩ := htg b hbn
    refine k_MS_worthOf_28 o2 ⟨by omega, by omega⟩ ⟨by omega, by omega⟩ ⟨by omega, by omega⟩ ⟨by omega, by omega⟩ ?_
    rw [V2.r7, V2.r9, V2.r10, V2.r26, V2.n25, V2.n27, V2.n28, G2.2.2.2 (s + 25) (by omega) (by omega), G2.2.2.2 (s + 27) (by omega) (by omega), G2.2.2.2 (s + 28) (by omega) (by omega), show ((c : Int) + 1).toNat = c + 1 by omega, ebb]
    refine ⟨V2.k0, V2.k25, by omega, fun q => by omega, fun _ => ⟨V2.k27, by omega, V2.k28, by omega, W2.2.1.1.1, (s_MF_set ⟨by omega, by omega⟩ (by omega) ⟨by omega, by omega⟩ (by omega) o2 W2.2.1 (by omega)).mono (fun M3 h3 => ?_)⟩⟩
    obtain ⟨o3, f3, F3, v1, v2, -⟩ := h3
    have f3' : FI (wS s) M2 M3 := f3.mono (fun y q => by have : s + 42 ≤ y ∧ y ≤ s + 42 + 4 := q; omega)
    have V3 := V2.fi f3
    have G3 : sameG M M3 s := sameG.of (f2.trans f3') (by omega) (fun y _ _ => by omega)
    have W3' : Wk M3 s := W2.put f3 F3.ft (by omega)
    have X3 := X2.out f3' (fun y q => by omega)
    have x3 := X3 _ t1
    have hBk : mK M3 B = 36 ∧ ((0 : Int) ≤ (st : Int) * mI M (s + 26) (bg M s c + b) + 0 ∧ (st : Int) * mI M (s + 26) (bg M s c + b) + 0 < (mN M3 B : Int)) ∧ mR M3 B ((st : Int) * mI M (s + 26) (bg M s c + b) + 0).toNat = s + e + 25 * tg M s (bg M s c + b) := by
      rw [← t2]
      rcases hB with ⟨b1, b2, b3⟩ | ⟨b1, b2, b3⟩ <;> subst b1 b2 b3
      · rw [show ((((1 : Nat) : Int)) * (tg M s (bg M s c + b) : Int) + 0).toNat = tg M s (bg M s c + b) by omega, V3.f38 _ (by omega), V3.n38]
        exact ⟨V3.k38, by omega, rfl⟩
      · rw [show ((((3 : Nat) : Int)) * (tg M s (bg M s c + b) : Int) + 0).toNat = 3 * tg M s (bg M s c + b) + 0 by omega, V3.f29 _ 0 (by omega) (by omega), V3.n29]
        exact ⟨V3.k29, by omega, by omega⟩
    rw [V3.r8, V3.r0, V3.r26, V3.n26, G3.2.2.2 (s + 26) (by omega) (by omega), hBk.2.2]
    have z1 := F3.2.1.1.2.2.2.2.2.2
    have z2 := F3.2.2.1.1.2.2.2.2.2.2
    have z3 := x3.1.2.1.1.2.2.2.2.2.2
    have z4 := x3.1.2.2.1.1.2.2.2.2.2.2
    refine ⟨o3, V3.k0, V3.k26, by omega, hBk.1, hBk.2.1, W3'.1.1.1, (s_MU_multiply (d := d) o3 W3'.1 F3 x3.1 (by unfold suO; omega) (by unfold suO; omega) (by omega) (by omega)).mono (fun M4 h4 => ?_)⟩
    have v4 := fv_mul F3 x3.1 h4
    rw [x3.2.2, fv_set v1 v2] at v4
    have hs4 : Smp (p + 2) (fv M4 (s + 1 + 1)) := by
      rw [v4]
      exact smp_mul (hxs _ t1) (by omega) (by omega) (by omega) (by omega)
    have hpb : (p + 2) * b ≤ 464 := Nat.le_trans (Nat.mul_le_mul_left _ (show b ≤ 8 by omega)) (by omega)
    have hpb1 : (p + 2) * (b + 1) = (p + 2) * b + (p + 2) := Nat.mul_succ _ _
    obtain ⟨o4, f4, Z4, F4, C4, -⟩ := h4
    have f4' : FI (fun y => s + 2 ≤ y ∧ y ≤ s + 21) M3 M4 := f4.mono (fun y q => by omega)
    have V4 := V3.fi f4
    have W4 : Wk M4 s := W3'.out f4' Z4 (fun y q => by omega)
    have sz4 := smp_size F4 C4 hs4
    rw [V4.r0, V4.r29, Z4.1.2.1]
    refine ⟨o4, V4.k0, Z4.1.1, W4.2.2.2.2.1.1.1, (s_MF_copy o4 W4.2.2.2.2.1 F4 (by omega) (by omega) (by omega)).mono (fun M5 h5 => ?_)⟩
    obtain ⟨o5, f5, F5, w4, w5, w6⟩ := h5
    have f5' : FI (fun y => s + 57 ≤ y ∧ y ≤ s + 61) M4 M5 := f5.mono (fun y q => by have : s + 57 ≤ y ∧ y ≤ s + 57 + 4 := q; omega)
    have C5 := fc_copy C4 w4 w5 w6
    have V5 := V4.fi f5
    have W5 : Wk M5 s := W4.put f5 F5.ft (by omega)
    have k52 : ∀ y, fS (s + 42) y → y < s + 52 ∨ s + 52 + 4 < y := fun y q => by have : s + 42 ≤ y ∧ y ≤ s + 42 + 4 := q; omega
    have a1 := F2.out f3 k52
    have a2 := C2.out F2 f3 k52
    have a3 := fv_out F2 f3 k52
    have b1 := a1.1.out f4' (fun y q => by omega)
    have b2 := a2.out a1.1 f4' (fun y q => by omega)
    have b3 := fv_out a1.1 f4' (fun y q => by omega)
    have c1 := b1.1.out f5' (fun y q => by omega)
    have c2 := b2.out b1.1 f5' (fun y q => by omega)
    have c3 := fv_out b1.1 f5' (fun y q => by omega)
    have e5 : fv M5 (s + 52) = fv M2 (s + 52) := by rw [c3, b3, a3]
    rw [← e5] at S2 e2
    have sz5 := smp_size c1.1 c2 S2
    have sz6 := smp_size F5 C5.1 (by rw [C5.2]; exact hs4)
    rw [V5.r0, V5.r28, V5.r29]
    refine ⟨o5, V5.k0, W5.1.1.1, (s_MU_add (d := d) (Or.inl rfl) o5 W5.1 c1.1 F5 (by unfold suO; omega) (by unfold suO; omega) (by omega) (by omega) (by omega)).mono (fun M6 h6 => ?_)⟩
    have v6 := fv_add (Or.inl rfl) c1.1 F5 h6
    rw [if_neg (by omega), C5.2, v4] at v6
    have hv6 : fv M6 (s + 1 + 1) = sr (fun b => chq M s (bg M s c + b) * x (tg M s (bg M s c + b))) (b + 1) := by
      rw [v6, e2, sr]
      rfl
    have hs6 : Smp ((p + 2) * (b + 1) + 1) (fv M6 (s + 1 + 1)) := by
      have a := hpart (b + 1) (by omega)
      have b' := smp_add S2 (by rw [v4] at hs4; exact hs4) (by rw [← v6, hv6]; exact a.2) (by rw [← v6, hv6]; grind)
      rw [v6]
      obtain ⟨E, z, q0, q1, q2⟩ := b'
      exact ⟨E, z, q0, Int.lt_of_lt_of_le q1 (pow_mono (by omega)), q2⟩
    obtain ⟨o6, f6, Z6, F6, C6, -⟩ := h6
    have f6' : FI (fun y => s + 2 ≤ y ∧ y ≤ s + 21) M5 M6 := f6.mono (fun y q => by omega)
    have V6 := V5.fi f6
    have W6 : Wk M6 s := W5.out f6' Z6 (fun y q => by omega)
    have sz7 := smp_size F6 C6 hs6
    rw [V6.r0, V6.r28, Z6.1.2.1]
    refine ⟨o6, V6.k0, Z6.1.1, W6.2.2.2.1.1.1, (s_MF_copy o6 W6.2.2.2.1 F6 (by omega) (by omega) (by omega)).mono (fun M7 h7 => ?_)⟩
    obtain ⟨o7, f7, F7, y4, y5, y6⟩ := h7
    have f7' : FI (fun y => s + 52 ≤ y ∧ y ≤ s + 56) M6 M7 := f7.mono (fun y q => by have : s + 52 ≤ y ∧ y ≤ s + 52 + 4 := q; omega)
    have C7 := fc_copy C6 y4 y5 y6
    have ff : FI (wS s) M2 M7 := (((f3'.trans (f4'.mono (fun y q => by omega))).trans (f5'.mono (fun y q => by omega))).trans (f6'.mono (fun y q => by omega))).trans (f7'.mono (fun y q => by omega))
    have hlast := ih (b + 1) M7 (by omega) o7 (f2.trans ff) (W6.put f7 F7.ft (by omega)) F7 C7.1 (by rw [C7.2, hv6]) (by rw [C7.2]; exact hs6)
    rw [show mI M (s + 25) c + ((b + 1 : Nat) : Int) = mI M (s + 25) c + (b : Int) + 1 by omega] at hlast
    exact ⟨o7, hlast⟩
theorem s_MS_worthOf {k i B st e : Nat} (hB : (B = s + 38 ∧ st = 1 ∧ e = 88) ∨ (B = s + 29 ∧ st = 3 ∧ e = 68)) (hO : mOk M) (hV : Vk M s) (hG : GW M s) (hC : GB M s) (hn : mI M s 1 = n) (hk : (k : Int) < mI M s 1) (hi : (i : Int) < mny M s k) (hW : Wk M s) (hX : Xt M s e n x) (h01 : ∀ t, t < n → 0 ≤ x t ∧ x t ≤ 1) :
    Cv G y_MS_worthOf (d + 5) [vr s, vi k, vi i, vr B, vi 0, vi st] M (woQ M s (cx M s k i) x) := by
  refine s_worthG (p := 56) (by omega) (fun t ht => ?_) hB hO hV hG hC hn hk hi hW hX h01
  obtain ⟨x1, x2, x3⟩ := hX t ht
  have a := h01 t ht
  have b := smp_fq x1 (by rw [x3]; exact a.2) (by rw [x3]; grind)
  rw [x3] at b
  exact b
end VS
end
section
/-! The reference's look answers what the least closed set says. -/
section RSV
variable {T : xt9} {J : Nat → Prop} {x : Int × List sc9} {k s : Nat} {M M' : mM} {r : Int}
/-- the solver's tables are those of T -/
def SvT (M : mM) (s : Nat) (T : xt9) : Prop := mI M s 1 = ((T.length : Nat) : Int) ∧ ∀ (k : Nat) (x : Int × List sc9), T[k]? = some x → mI M (s + 22) k = x.1 ∧ mny M s k = ((x.2.length : Nat) : Int) ∧ ∀ (i : Nat) (c : sc9), x.2[i]? = some c → mI M (s + 24) ((mI M (s + 23) k).toNat + i) = c.2.1 ∧ (∀ J : Nat → Prop, leadQ J M s k i ↔ ldA9 J c) ∧ (∀ b, b ∈ c.2.2 → b.1 < T.length) ∧ ∀ f : Nat → Rat, cw M s (cx M s k i) f = wr9 f c
theorem SvT.sv (h : SvT M s T) (e1 : mI M' s 1 = mI M s 1) (e : ∀ i, 22 ≤ i → i ≤ 28 → mI M' (s + i) = mI M (s + i)) : SvT M' s T := by
  refine ⟨by rw [e1]; exact h.1, fun k x hx => ?_⟩
  obtain ⟨h1, h2, h3⟩ := h.2 k x hx
  have ew : ∀ (c : Nat) (f : Nat → Rat), cw M' s c f = cw M s c f := fun c f => by
    unfold cw chq bg nb tg
    rw [e 25 (by decide) (by decide), e 26 (by decide) (by decide), e 27 (by decide) (by decide), e 28 (by decide) (by decide)]
  have ex : cx M' s = cx M s := by
    funext a b
    unfold cx
    rw [e 23 (by decide) (by decide)]
  unfold mny leadQ at *
  rw [e 22 (by decide) (by decide), e 23 (by decide) (by decide), e 24 (by decide) (by decide), e 25 (by decide) (by decide), e 26 (by decide) (by decide)]
  refine ⟨h1, h2, fun i c hc => ?_⟩
  obtain ⟨g1, g2, g3, g4⟩ := h3 i c hc
  exact ⟨g1, g2, g3, fun f => by rw [ew, ex]; exact g4 f⟩
theorem lt_some {α : Type} {l : List α} {i : Nat} {a : α} (h : l[i]? = some a) : i < l.length := (List.getElem?_eq_some_iff.mp h).1
theorem co_iff (h : SvT M s T) (k0 : mI M s 17 = 0) (hx : T[k]? = some x) : comesQ J M s k 0 ↔ coA9 J x := by
  obtain ⟨a1, a2, a3⟩ := h.2 k x hx
  have use : x.1 ≠ 0 → ∀ i, useP M s k i 0 := fun n i => Or.inl ⟨Or.inr rfl, Or.inl (by rw [k0, a1]; exact fun u => n u.symm)⟩
  unfold comesQ coA9
  rw [a1, a2]
  constructor
  · intro u
    rcases u with ⟨u1, i, u2, -, u3⟩ | ⟨u1, u2, u3⟩
    · have hi := List.getElem?_eq_getElem (l := x.2) (i := i) (by omega)
      exact Or.inl ⟨u1, _, List.mem_of_getElem? hi, ((a3 i _ hi).2.1 J).mp u3⟩
    · refine Or.inr ⟨u1, fun e => by rw [e] at u2; exact absurd u2 (by decide), fun c hc => ?_⟩
      obtain ⟨i, hi⟩ := List.getElem?_of_mem hc
      have lt := lt_some hi
      exact ((a3 i c hi).2.1 J).mp (u3 i (by omega) (use (by rw [u1]; decide) i))
  · intro u
    rcases u with ⟨u1, c, hc, u2⟩ | ⟨u1, u2, u3⟩
    · obtain ⟨i, hi⟩ := List.getElem?_of_mem hc
      have lt := lt_some hi
      exact Or.inl ⟨u1, i, by omega, use (by rw [u1]; decide) i, ((a3 i c hi).2.1 J).mpr u2⟩
    · refine Or.inr ⟨u1, ?_, fun i hi _ => ?_⟩
      · have : x.2.length ≠ 0 := fun e => u2 (List.length_eq_zero_iff.mp e)
        omega
      · have g := List.getElem?_eq_getElem (l := x.2) (i := i) (by omega)
        exact ((a3 i _ g).2.1 J).mpr (u3 _ (List.mem_of_getElem? g))
theorem ref_sv (hS : SvT M s T) (hG : GW M s) (k0 : mI M s 17 = 0) (hk : ∀ (k : Nat) (x : Int × List sc9), T[k]? = some x → x.1 = 0 → x.2 = []) (hg : gvQ M s 0 M') (hl : lokX M' s r) : svA9 T r := by
  obtain ⟨⟨ρ, t, o, f, g3⟩, g4⟩ := hg
  obtain ⟨e, w, hw, hr⟩ := hl
  have nS : ∀ y, y ≠ s + 36 → mI M' y = mI M y := fun y hy => f.2.2.2.2.2.2 y hy
  have es : mI M' s = mI M s := nS s (by omega)
  have e22 : mI M' (s + 22) = mI M (s + 22) := nS _ (by omega)
  have e23 : mI M' (s + 23) = mI M (s + 23) := nS _ (by omega)
  have e24 : mI M' (s + 24) = mI M (s + 24) := nS _ (by omega)
  have e32 : mI M' (s + 32) = mI M (s + 32) := nS _ (by omega)
  have len : (mI M' s 1).toNat = T.length := by rw [es, hS.1]; exact Int.toNat_natCast _
  rw [len] at hr
  have lt : ∀ (k : Nat) (x : Int × List sc9), T[k]? = some x → (k : Int) < mI M s 1 := fun k x hx => by
    have := lt_some hx
    rw [hS.1]
    omega
  have at9 : ∀ k : Nat, (k : Int) < mI M s 1 → ∃ x, T[k]? = some x := fun k hk => ⟨_, List.getElem?_eq_getElem (by rw [hS.1] at hk; omega)⟩
  have L : lsA9 T (fun k => (k : Int) < mI M s 1 ∧ mI M' (s + 36) k = 1) := by
    refine ⟨fun k x hx u => ⟨lt k x hx, ?_⟩, fun J' hc => rk_in ρ (fun k hJ => ?_) hc⟩
    · obtain ⟨b1, b2, b3⟩ := g3 k (lt k x hx)
      rcases b1 with y | y
      · exfalso
        rcases u with u | u
        · have := b2 (by rw [(hS.2 k x hx).1]; exact u)
          omega
        · refine g4 k (lt k x hx) y ((co_iff hS k0 hx).mpr (u.mono (fun j hj => ?_)))
          show mI M' (s + 36) j ≠ 0
          rw [hj.2]
          decide
      · exact y
    · obtain ⟨x, hx⟩ := at9 k hJ.1
      obtain ⟨b1, b2, b3⟩ := g3 k hJ.1
      refine ⟨x, hx, ?_⟩
      rcases (b3 hJ.2).2 with u | u
      · exact Or.inl (by rw [← (hS.2 k x hx).1]; exact u)
      · refine Or.inr ((co_iff hS k0 hx).mp (u.mono hG hJ.1 (fun j hj v => ⟨⟨hj, ?_⟩, v.2⟩)))
        have v1 : mI M' (s + 36) j ≠ 0 := v.1
        rcases (g3 j hj).1 with y | y
        · exact absurd y v1
        · exact y
  have uk : ∀ (k : Nat) (x : Int × List sc9), T[k]? = some x → (unk M' s k ↔ (((k : Int) < mI M s 1 ∧ mI M' (s + 36) k = 1) ∧ x.1 ≠ 3)) := fun k x hx => by
    have l := lt k x hx
    have b := (g3 k l).1
    unfold unk
    rw [e22, (hS.2 k x hx).1]
    constructor
    · intro u
      refine ⟨⟨l, ?_⟩, u.2⟩
      rcases b with y | y
      · exact absurd y u.1
      · exact y
    · intro u
      exact ⟨by rw [u.1.2]; decide, u.2⟩
  have U : unA9 T (fun k => (k : Int) < mI M s 1 ∧ mI M' (s + 36) k = 1) e := fun k x hx => by
    obtain ⟨c1, c2⟩ := hw k (by rw [es]; exact lt k x hx)
    exact ⟨fun u => (c1 ((uk k x hx).mpr u)).1, fun u => (c2 (fun v => u ((uk k x hx).mp v))).1⟩
  have Wt : ∀ (k : Nat) (x : Int × List sc9), T[k]? = some x → (e k = 1 → weA9 x (w k)) ∧ (e k = 0 → w k = 0) := fun k x hx => by
    obtain ⟨c1, c2⟩ := hw k (by rw [es]; exact lt k x hx)
    by_cases u : unk M' s k
    · obtain ⟨d1, D, v, d2, d3, d4, d5, d6⟩ := c1 u
      refine ⟨fun _ => ⟨D, v, ⟨d2, fun c hc => ?_, ?_⟩, d5, d6⟩, fun z => by omega⟩
      · obtain ⟨i, hi⟩ := List.getElem?_of_mem hc
        have li := lt_some hi
        obtain ⟨a1, a2, a3⟩ := hS.2 k x hx
        have q := d3 i (by unfold mny; rw [e23]; show (i : Int) < mny M s k; rw [a2]; omega) (Or.inl (by rw [es, k0, e22, a1]; exact fun z => absurd hc (by rw [hk k x hx z.symm]; exact List.not_mem_nil)))
        rw [e24, e23, (a3 i c hi).1] at q
        exact q
      · rcases d4 with y | ⟨i, y1, -, y2⟩
        · exact Or.inl y
        · obtain ⟨a1, a2, a3⟩ := hS.2 k x hx
          have y1' : (i : Int) < mny M s k := by unfold mny at y1; rw [e23] at y1; exact y1
          rw [a2] at y1'
          have g := List.getElem?_eq_getElem (l := x.2) (i := i) (by omega)
          refine Or.inr ⟨_, List.mem_of_getElem? g, ?_⟩
          rw [← (a3 i _ g).1, ← e24, ← e23]
          exact y2
    · obtain ⟨d1, d2⟩ := c2 u
      exact ⟨fun z => by omega, fun _ => d2⟩
  refine ⟨_, e, L, U, ?_⟩
  rcases hr with ⟨y1, y2⟩ | ⟨y1, y2, y3⟩ | ⟨y1, y2, y3⟩
  · exact Or.inl ⟨y1, y2⟩
  · exact Or.inr ⟨y1, w, Wt, Or.inl ⟨y2, y3⟩⟩
  · exact Or.inr ⟨y1, w, Wt, Or.inr ⟨y2, y3⟩⟩
end RSV
end
