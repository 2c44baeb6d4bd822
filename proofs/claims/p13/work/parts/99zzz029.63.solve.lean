/-! The solver: all pivots. -/
/-- the table after k pivots -/
def tA (p : Nat → Nat → Rat) (m k : Nat) : Nat → Nat → Rat := fun i j => if j = m then gq p k i j else if j < k then (if i = j then 1 else 0) else (if i = j then 1 else 0) - gq p k i j
/-- m equations in m unknowns whose numbers stay small -/
def Sy (m : Nat) (p : Nat → Nat → Rat) (N : Nat → Nat → Int) (D : Nat → Int) : Prop := (∃ h, gok m 0 p h) ∧ (∀ r c, r < m → c ≤ m → (D r : Rat) * p r c = (N r c : Rat)) ∧ (∀ r, r < m → 0 < D r) ∧ (∀ i k, i < m → k ≤ m → D i * det k (bm N D) < 16777216 ^ 56 ∧ det k (bm N D) < 16777216 ^ 21)
section SY
variable {m : Nat} {p : Nat → Nat → Rat} {N : Nat → Nat → Int} {D : Nat → Int}
theorem sml_of {x : Rat} {i k : Nat} (h : Sy m p N D) (hi : i < m) (hk : k ≤ m) (he : ∃ z : Int, x * ((D i * det k (bm N D) : Int) : Rat) = (z : Rat)) (h1 : x ≤ 1) (h2 : -1 ≤ x) : Sml x := by
  obtain ⟨⟨h, g⟩, hp, hD, hE⟩ := h
  obtain ⟨z, hz⟩ := he
  exact ⟨_, z, Int.mul_pos (hD i hi) (det_pos g hp hD k hk), (hE i k hi hk).1, hz, h1, h2⟩
theorem Sy.q01 (h : Sy m p N D) {i j k : Nat} (hi : i < m) (hk : k ≤ j) (hj : j ≤ m) : 0 ≤ gq p k i j ∧ gq p k i j ≤ 1 := by
  obtain ⟨⟨h, g⟩, -⟩ := h
  have g2 := gok_all g k (by omega)
  refine ⟨g2.1 i j hi hk hj, ?_⟩
  have a := g2.2.1 i hi
  have b := sr_one (f := fun t => gq p k i (k + t)) (j := j - k) (m + 1 - k) (by omega) (fun c hc => g2.1 i _ hi (by omega) (by omega))
  have e : gq p k i (k + (j - k)) = gq p k i j := by rw [show k + (j - k) = j by omega]
  have b2 : gq p k i (k + (j - k)) ≤ sr (fun t => gq p k i (k + t)) (m + 1 - k) := b
  rw [e] at b2
  exact Rat.le_trans b2 a
theorem sml_one : Sml 1 := ⟨1, 1, by omega, by decide, by grind, by grind, by grind⟩
theorem sml_zero : Sml 0 := ⟨1, 0, by omega, by decide, by grind, by grind, by grind⟩
theorem tA_sml (h : Sy m p N D) {i j k : Nat} (hi : i < m) (hk : k ≤ m) (hj : j ≤ m) : Sml (tA p m k i j) := by
  unfold tA
  by_cases q : j = m
  · rw [if_pos q]
    have a := h.q01 hi (k := k) (by omega) hj
    obtain ⟨⟨h', g⟩, hp, -⟩ := id h
    exact sml_of h hi hk (gq_int2 g hp hk hj hi) a.2 (by grind)
  · rw [if_neg q]
    by_cases w : j < k
    · rw [if_pos w]
      by_cases e : i = j
      · rw [if_pos e]; exact sml_one
      · rw [if_neg e]; exact sml_zero
    · rw [if_neg w]
      have a := h.q01 hi (k := k) (by omega) hj
      obtain ⟨⟨h', g⟩, hp, -⟩ := id h
      obtain ⟨z, hz⟩ := gq_int2 g hp hk hj hi
      by_cases e : i = j
      · rw [if_pos e]
        refine sml_of h hi hk ⟨D i * det k (bm N D) - z, ?_⟩ (by grind) (by grind)
        rw [Rat.intCast_sub, ← hz]
        grind
      · rw [if_neg e]
        refine sml_of h hi hk ⟨- z, ?_⟩ (by grind) (by grind)
        rw [Rat.intCast_neg, ← hz]
        grind
theorem tA_m {k i : Nat} : tA p m k i m = gq p k i m := if_pos rfl
theorem tA_lt {k i j : Nat} (h : j < k) (h2 : j ≠ m) : tA p m k i j = if i = j then 1 else 0 := by
  unfold tA
  rw [if_neg h2, if_pos h]
theorem tA_ge {k i j : Nat} (h : k ≤ j) (h2 : j ≠ m) : tA p m k i j = (if i = j then 1 else 0) - gq p k i j := by
  unfold tA
  rw [if_neg h2, if_neg (by omega)]
theorem tA_row (h : Sy m p N D) {k b : Nat} (hk : k < m) (h1 : k ≤ b) (h2 : b ≤ m) : tA p m k k b * (tA p m k k k)⁻¹ = tA p m (k + 1) k b := by
  obtain ⟨⟨h', g⟩, -⟩ := h
  have hp := gok_pivot (gok_all g k (by omega)) hk
  have hw1 : (1 - gq p k k k) * (1 - gq p k k k)⁻¹ = 1 := Rat.mul_inv_cancel _ (by grind)
  have e0 : tA p m k k k = 1 - gq p k k k := by rw [tA_ge (by omega) (by omega), if_pos rfl]
  have hg : gq p (k + 1) k b = gq p k k b + gq p k k k * ((1 - gq p k k k)⁻¹ * gq p k k b) := rfl
  rw [e0]
  by_cases q : b = m
  · subst q
    rw [tA_m, tA_m, hg]
    generalize (1 - gq p k k k)⁻¹ = w at *
    grind
  · by_cases z : b = k
    · subst z
      rw [e0, tA_lt (by omega) q, if_pos rfl]
      exact hw1
    · rw [tA_ge (by omega) q, tA_ge (by omega) q, hg, if_neg (by omega)]
      generalize (1 - gq p k k k)⁻¹ = w at *
      grind
theorem tA_el (h : Sy m p N D) {k a b : Nat} (hk : k < m) (ha : a ≠ k) (h1 : k ≤ b) (h2 : b ≤ m) : tA p m k a b - tA p m k a k * tA p m (k + 1) k b = tA p m (k + 1) a b := by
  obtain ⟨⟨h', g⟩, -⟩ := h
  have hp := gok_pivot (gok_all g k (by omega)) hk
  have hw1 : (1 - gq p k k k) * (1 - gq p k k k)⁻¹ = 1 := Rat.mul_inv_cancel _ (by grind)
  have e0 : tA p m k a k = 0 - gq p k a k := by rw [tA_ge (by omega) (by omega), if_neg ha]
  have hg : ∀ i, gq p (k + 1) i b = gq p k i b + gq p k i k * ((1 - gq p k k k)⁻¹ * gq p k k b) := fun i => rfl
  rw [e0]
  by_cases q : b = m
  · subst q
    rw [tA_m, tA_m, tA_m, hg, hg]
    generalize (1 - gq p k k k)⁻¹ = w at *
    grind
  · by_cases z : b = k
    · subst z
      rw [e0, tA_lt (by omega) q, tA_lt (by omega) q, if_pos rfl, if_neg ha]
      grind
    · rw [tA_ge (by omega) q, tA_ge (by omega) q, tA_ge (by omega) q, hg, hg, if_neg (show ¬ k = b by omega)]
      generalize (1 - gq p k k k)⁻¹ = w at *
      by_cases y : a = b
      · rw [if_pos y]
        grind
      · rw [if_neg y]
        grind
theorem sml_b {x : Rat} (h : Sml x) : x ≤ 1 ∧ -1 ≤ x := by
  obtain ⟨E, z, -, -, -, h1, h2⟩ := h
  exact ⟨h1, h2⟩
end SY
section VS
variable {G : mG} {d s m : Nat} {M : mM} {p : Nat → Nat → Rat} {N : Nat → Nat → Int} {D : Nat → Int}
theorem s_MS_solveRows (hm : m ≤ 40) (hO : mOk M) (hV : Vk M s) (h24 : mI M s 24 = m) (hW : Wk M s) (h : Sy m p N D) (hT : Tb M s m (tA p m 0)) :
    Cv G y_MS_solveRows (d + 6) [vr s] M (fun M' => mOk M' ∧ FI (cS s m) M M' ∧ Wk M' s ∧ Tb M' s m (tA p m m)) := by
  refine k_MS_solveRows hO ?_
  suffices H : ∀ (n k : Nat) (M2 : mM), k + n = m → mOk M2 → FI (cS s m) M M2 → Wk M2 s → Tb M2 s m (tA p m k) → h_MS_solveRows_2 G (d + 5) s k M2 (fun M' => mOk M' ∧ FI (cS s m) M M' ∧ Wk M' s ∧ Tb M' s m (tA p m m)) from
    H m 0 M (by omega) hO FI.refl hW hT
  intro n
  induction n with
  | zero =>
    intro k M2 hn o2 f2 W2 T2
    have es : mI M2 s = mI M s := f2.2.2.2.2.2.2 s (by omega)
    have ek : k = m := by omega
    subst ek
    refine k_MS_solveRows_2 o2 ⟨by omega, by omega⟩ ?_
    rw [es, h24]
    exact ⟨(hV.fi f2).k0, fun _ => ⟨o2, f2, W2, T2⟩, fun c => by omega⟩
  | succ n ih =>
    intro k M2 hn o2 f2 W2 T2
    have hV2 := hV.fi f2
    have es : mI M2 s = mI M s := f2.2.2.2.2.2.2 s (by omega)
    have hk : k < m := by omega
    refine k_MS_solveRows_2 o2 ⟨by omega, by omega⟩ ?_
    rw [es, h24]
    refine ⟨hV2.k0, fun c => by omega, fun _ => ?_⟩
    have hpv : tA p m k k k ≠ 0 := by
      obtain ⟨⟨h', g⟩, -⟩ := h
      have hp := gok_pivot (gok_all g k (by omega)) hk
      have e0 : tA p m k k k = 1 - gq p k k k := by
        unfold tA
        rw [if_neg (by omega), if_neg (by omega), if_pos rfl]
      rw [e0]
      grind
    refine s_row (d := d + 1) hm hk o2 hV2 W2 T2 hpv (fun b h1 h2 => by rw [tA_row h hk h1 h2]; exact tA_sml h hk (by omega) h2) (fun M3 o3 f3 W3 T3 => ?_)
    have hB : ∀ a b, a < m → b ≤ m → dvA (tA p m k) k ((k : Int) + (-1)) a b = if a = k then tA p m (k + 1) k b else tA p m k a b := by
      intro a b ha hb
      show (if a = k ∧ (k : Int) + (-1) < (b : Int) then tA p m k k b * (tA p m k k k)⁻¹ else tA p m k a b) = _
      by_cases q : a = k
      · rw [if_pos q]
        by_cases z : k ≤ b
        · rw [if_pos ⟨q, by omega⟩, tA_row h hk z hb]
        · rw [if_neg (by omega), q]
          rw [tA_lt (by omega) (by omega), tA_lt (by omega) (by omega)]
      · rw [if_neg q, if_neg (by omega)]
    have T3' := T3.congr hB
    have es3 : mI M3 s = mI M2 s := f3.2.2.2.2.2.2 s (by omega)
    refine s_clear (d := d) hm hk o3 (hV2.fi f3) (by rw [es3, es, h24]) W3 T3' (fun a b ha hb => ?_) (fun a b ha hak h1 h2 => ?_) (fun M4 o4 f4 W4 T4 => ?_)
    · by_cases q : a = k
      · rw [if_pos q]; exact sml_b (tA_sml h hk (by omega) hb)
      · rw [if_neg q]; exact sml_b (tA_sml h ha (by omega) hb)
    · rw [if_neg hak, if_neg hak, if_pos rfl, tA_el h hk hak h1 h2]
      exact tA_sml h ha (by omega) h2
    · refine ih (k + 1) M4 (by omega) o4 ((f2.trans f3).trans f4) W4 (T4.congr (fun a b ha hb => ?_))
      show (if a < m ∧ a ≠ k ∧ k ≤ b then (if a = k then tA p m (k + 1) k b else tA p m k a b) - (if a = k then tA p m (k + 1) k k else tA p m k a k) * (if k = k then tA p m (k + 1) k b else tA p m k k b) else (if a = k then tA p m (k + 1) k b else tA p m k a b)) = tA p m (k + 1) a b
      by_cases q : a = k
      · rw [if_neg (by omega), if_pos q, q]
      · rw [if_neg q, if_neg q, if_pos rfl]
        by_cases z : k ≤ b
        · rw [if_pos ⟨ha, q, z⟩, tA_el h hk q z hb]
        · rw [if_neg (by omega)]
          rw [tA_lt (by omega) (by omega), tA_lt (by omega) (by omega)]
end VS
