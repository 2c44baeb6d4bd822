/-! The solver: what it tells. -/
theorem s_digits2 {G : mG} {d u a ra c : Nat} {M : mM} {D : Nat} (hO : mOk M) (hZ : Sz M u) (hA : W3 M a ra) (oa : a + 1 < u + 11 ∨ u + 12 < a) (z1 : mI M a 1 ≤ 900) (hc : mK M c = 30) (hn : D ≤ mN M c) (hD : 0 < D) (hD2 : D < 100000) (hv : wv M a < 10 ^ D) (oc : c < u + 1 ∨ u + 20 < c) :
    Ci G y_MU_digits (d + 2) [vr u, vr a, vr c] M (fun x M' => mOk M' ∧ FI (fun x => x = u + 11 ∨ x = u + 12 ∨ x = c) M M' ∧ Sz M' u ∧ 0 < x ∧ x ≤ D ∧ ∀ j : Nat, (j : Int) < x → 0 ≤ mI M' c j ∧ mI M' c j ≤ 9) := by
  refine k_MU_digits hO ?_
  rw [hZ.1.2.2.2.1]
  refine ⟨hZ.1.1, (hZ.wh 11 (by decide)).1, (s_MW_copy hO (hZ.wh 11 (by decide)) hA (by omega) z1).mono (fun M1 h1 => ?_)⟩
  obtain ⟨g1, g2, g3, g4⟩ := h1
  have Z1 := hZ.step (c := 11) (by decide) rfl g2 g3.1
  refine ⟨g1, ?_⟩
  suffices H : ∀ (k : Nat) (l : Int) (M1 : mM), l + k + 1 = D → 0 ≤ l → mOk M1 → FI (fun x => x = u + 11 ∨ x = u + 12 ∨ x = c) M M1 → Sz M1 u → W3 M1 (u + 11) 900 → wv M1 (u + 11) < 10 ^ (k + 1) → (∀ j : Nat, (j : Int) < l → 0 ≤ mI M1 c j ∧ mI M1 c j ≤ 9) → h_MU_digits_10 G (d + 1) u c l M1 (fun x M' => mOk M' ∧ FI (fun x => x = u + 11 ∨ x = u + 12 ∨ x = c) M M' ∧ Sz M' u ∧ 0 < x ∧ x ≤ D ∧ ∀ j : Nat, (j : Int) < x → 0 ≤ mI M' c j ∧ mI M' c j ≤ 9) from
    H (D - 1) 0 M1 (by omega) (by omega) g1 (g2.mono (fun x q => by omega)) Z1 g3 (by rw [g4, show D - 1 + 1 = D by omega]; exact hv) (fun j hj => by omega)
  intro k
  induction k with
  | zero =>
    intro l M1 hk h0 hO1 F1 Z1 W1 hw hd
    refine k_MU_digits_10 hO1 ⟨by omega, by omega⟩ ?_
    rw [Z1.1.2.2.2.1]
    refine ⟨Z1.1.1, W1.1.1, (s_MW_tenth hO1 W1).mono (fun x M2 h2 => ?_)⟩
    obtain ⟨k1, k2, k3, k4, k5⟩ := h2
    have Z2 := Z1.step (c := 11) (by decide) rfl k2 k3.1
    have F2 := F1.trans (k2.mono (fun x q => by omega))
    have n2 : mN M2 c = mN M c := by rw [F2.2.1]
    refine ⟨⟨by omega, by omega⟩, k1, by rw [F2.1]; exact hc, by omega, fun M3 e3 => ?_⟩
    have f3 : FI (fun x => x = c) M2 M3 := by rw [e3]; exact FI.ui rfl
    have o3 : mOk M3 := by rw [e3]; exact mOk_UI k1 ⟨by omega, by omega⟩
    have hd3 : ∀ j : Nat, (j : Int) < l + 1 → 0 ≤ mI M3 c j ∧ mI M3 c j ≤ 9 := fun j hj => by
      rw [e3, mI_UI]
      by_cases z : j = l.toNat
      · rw [if_pos ⟨rfl, z⟩]
        omega
      · rw [if_neg (fun w => z w.2), k2.2.2.2.2.2.2 c (by omega)]
        exact hd j (by omega)
    have Z3 : Sz M3 u := ⟨Z2.1.fi f3, Z2.2.1.fi f3, Z2.2.2.1.fi f3, fun e he => (Z2.wh e he).out f3 (by
      have h1 : ∀ e ∈ szL, 1 ≤ e ∧ e ≤ 20 := by decide
      have h2 := h1 e he
      omega)⟩
    obtain ⟨W3', v3⟩ := k3.out f3 (by omega) (by omega)
    rw [Z3.1.2.2.2.1]
    refine ⟨Z3.1.1, W3'.1.1, (s_MW_isZero o3 W3'.1).mono (fun y M4 h4 => ?_)⟩
    obtain ⟨e4, hy⟩ := h4
    subst e4
    have hz : mI M4 (u + 11) 1 = 0 := W3'.zero.2 (by have hw' : wv M1 (u + 11) < 10 := hw; have := W1.nonneg; omega)
    rw [if_pos hz] at hy
    exact ⟨⟨by omega, by omega⟩, o3, fun q => by omega, fun _ => ⟨o3, F2.trans (f3.mono (fun x q => by omega)), Z3, by omega, by omega, hd3⟩⟩
  | succ k ih =>
    intro l M1 hk h0 hO1 F1 Z1 W1 hw hd
    refine k_MU_digits_10 hO1 ⟨by omega, by omega⟩ ?_
    rw [Z1.1.2.2.2.1]
    refine ⟨Z1.1.1, W1.1.1, (s_MW_tenth hO1 W1).mono (fun x M2 h2 => ?_)⟩
    obtain ⟨k1, k2, k3, k4, k5⟩ := h2
    have Z2 := Z1.step (c := 11) (by decide) rfl k2 k3.1
    have F2 := F1.trans (k2.mono (fun x q => by omega))
    have n2 : mN M2 c = mN M c := by rw [F2.2.1]
    refine ⟨⟨by omega, by omega⟩, k1, by rw [F2.1]; exact hc, by omega, fun M3 e3 => ?_⟩
    have f3 : FI (fun x => x = c) M2 M3 := by rw [e3]; exact FI.ui rfl
    have o3 : mOk M3 := by rw [e3]; exact mOk_UI k1 ⟨by omega, by omega⟩
    have hd3 : ∀ j : Nat, (j : Int) < l + 1 → 0 ≤ mI M3 c j ∧ mI M3 c j ≤ 9 := fun j hj => by
      rw [e3, mI_UI]
      by_cases z : j = l.toNat
      · rw [if_pos ⟨rfl, z⟩]
        omega
      · rw [if_neg (fun w => z w.2), k2.2.2.2.2.2.2 c (by omega)]
        exact hd j (by omega)
    have Z3 : Sz M3 u := ⟨Z2.1.fi f3, Z2.2.1.fi f3, Z2.2.2.1.fi f3, fun e he => (Z2.wh e he).out f3 (by
      have h1 : ∀ e ∈ szL, 1 ≤ e ∧ e ≤ 20 := by decide
      have h2 := h1 e he
      omega)⟩
    obtain ⟨W3', v3⟩ := k3.out f3 (by omega) (by omega)
    rw [Z3.1.2.2.2.1]
    refine ⟨Z3.1.1, W3'.1.1, (s_MW_isZero o3 W3'.1).mono (fun y M4 h4 => ?_)⟩
    obtain ⟨e4, hy⟩ := h4
    subst e4
    refine ⟨⟨by split at hy <;> omega, by split at hy <;> omega⟩, o3, fun q => ih (l + 1) M4 (by omega) (by omega) o3 (F2.trans (f3.mono (fun x q => by omega))) Z3 W3' ?_ hd3, fun _ => ⟨o3, F2.trans (f3.mono (fun x q => by omega)), Z3, by omega, by omega, hd3⟩⟩
    rw [v3, k4]
    have : (10 : Int) ^ (k + 1 + 1) = 10 ^ (k + 1) * 10 := Int.pow_succ _ _
    generalize (10 : Int) ^ (k + 1) = P at *
    omega
theorem Hs.out {S : Nat → Prop} {M M' : mM} {s n w : Nat} (h : Hs M s n w) (f : FI S M M') (h0 : ¬ S (s + 30)) (hs : ∀ y, S y → y < s + 68) (hw : w < 3) : Hs M' s n w := by
  obtain ⟨h1, h2⟩ := h
  unfold Hs
  rw [f.2.2.2.2.2.2 _ h0]
  refine ⟨h1, fun q => ?_⟩
  obtain ⟨x, X, v⟩ := h2 q
  exact ⟨x, X.out f (fun y q => by have := hs y q; omega), v⟩
theorem Sv.out {S : Nat → Prop} {M M' : mM} {s n : Nat} (h : Sv M s n) (f : FI S M M') (hs : ∀ y, S y → (s < y ∧ y < s + 22) ∨ (s + 42 ≤ y ∧ y ≤ s + 67) ∨ y < s ∨ s + 21067 < y) (hW : Wk M' s) : Sv M' s n := by
  have hn5 := h.n5
  obtain ⟨V, g, c, e, t, W, T, R, H, hc⟩ := h
  have sg : sameG M M' s := sameG.of f (fun q => by have := hs s q; omega) (fun y a b q => by have := hs y q; omega)
  have fe := f.2.2.2.2.2.2
  refine ⟨V.fi f, sg.gw g, sg.gb c, by rw [sg.1]; exact e, t.out sg (fe _ (fun q => by have := hs _ q; omega)), hW, fun i j hi hj => (T i j hi hj).out f (fun y q => by have := hs y q; unfold cel; omega), fun e he => (R e he).out f (fun y q => by have := hs y q; omega), fun w hw => ?_, fun q => (hc (by rw [← fe (s + 30) (fun q => by have := hs _ q; omega)]; exact q)).out sg (fe _ (fun q => by have := hs _ q; omega))⟩
  obtain ⟨h1, h2⟩ := H w hw
  unfold Hs
  rw [fe _ (fun q => by have := hs _ q; omega)]
  refine ⟨h1, fun q => ?_⟩
  obtain ⟨x, X, v⟩ := h2 q
  exact ⟨x, X.out2 f (fun i y hi q => by have := hs y q; omega), v⟩
theorem fv_top {M : mM} {f r : Nat} (hF : Fq M f r) (h0 : 0 ≤ fv M f) (h1 : fv M f ≤ 1) : wv M (f + 1) ≤ wv M (f + 3) := by
  have a := fv_abs hF h1 (by grind)
  rw [fv_wv hF h0] at a
  exact a.1
theorem p160 : (16777216 : Int) ^ 21 < 10 ^ 160 := by decide
section PR
variable {G : mG} {d s n k w : Nat} {M : mM}
/-- the fraction of state k for w -/
abbrev frc (s k w : Nat) : Nat := s + (68 + 5 * w) + 25 * k
theorem Sv.frac (h : Sv M s n) (hk : k < n) (hw : w < 3) (hh : mI M (s + 30) w ≠ 0) : okF M (frc s k w) ∧ mR M (s + 29) (3 * (k : Int) + (w : Int)).toNat = frc s k w := by
  have hn5 := h.n5
  obtain ⟨V, g, c, e, t, W, T, R, H, hc⟩ := h
  obtain ⟨h1, h2⟩ := H w hw
  obtain ⟨x, X, v⟩ := h2 (by omega)
  obtain ⟨x1, x2, x3⟩ := X k hk
  refine ⟨⟨x1, x2, by rw [x3]; exact (v k hk).1, by rw [x3]; exact (v k hk).2⟩, ?_⟩
  rw [show (3 * (k : Int) + (w : Int)).toNat = 3 * k + w by omega, V.f29 k w (by omega) hw]
  unfold frc
  omega
theorem okF.low {M : mM} {f : Nat} (h : okF M f) : wv M (f + 1) ≤ wv M (f + 3) ∧ mI M (f + 1) 1 ≤ 21 ∧ mI M (f + 3) 1 ≤ 21 ∧ wv M (f + 1) < 10 ^ 160 ∧ wv M (f + 3) < 10 ^ 160 := by
  obtain ⟨h1, h2, h3, h4⟩ := h
  have a := fv_top h1 h4 (smp_b h3).1
  have b := smp_size h1 h2 h3
  have c1 := h1.2.1.lt
  have c2 := h1.2.2.1.lt
  have d1 : (16777216 : Int) ^ (mI M (f + 1) 1).toNat ≤ 16777216 ^ 21 := pow_mono (by omega)
  have d2 : (16777216 : Int) ^ (mI M (f + 3) 1).toNat ≤ 16777216 ^ 21 := pow_mono (by omega)
  have := p160
  exact ⟨a, b.1, b.2, by omega, by omega⟩
theorem s_MS_isThere {l1 l2 : Int} (h1 : i32 l1) (h2 : i32 l2) (hO : mOk M) (h : Sv M s n) : Ci G y_MS_isThere d [vr s, vi l1, vi l2] M (fun r M' => M' = M ∧ (r = 0 ∨ r = 1) ∧ (r ≠ 0 ↔ (0 ≤ l1 ∧ l1 < n ∧ 0 ≤ l2 ∧ l2 ≤ 2 ∧ mI M (s + 30) l2.toNat ≠ 0))) := by
  obtain ⟨V, g, c, e, -⟩ := h
  refine k_MS_isThere hO h1 h2 ?_
  rw [V.r12, V.n30, e]
  refine ⟨fun _ => ⟨V.k0, fun _ _ _ => ⟨V.k30, by omega⟩⟩, fun v hv => ⟨rfl, by split at hv <;> omega, ?_⟩⟩
  by_cases q : l1 < 0 ∨ ((n : Int) ≤ l1 ∨ (l2 < 0 ∨ (2 < l2 ∨ mI M (s + 30) l2.toNat = 0)))
  · rw [if_pos q] at hv
    exact ⟨fun w => absurd hv w, fun w => by omega⟩
  · rw [if_neg q] at hv
    exact ⟨fun _ => by omega, fun _ => by omega⟩
theorem s_MS_compare {j w' : Nat} (hO : mOk M) (h : Sv M s n) (hk : k < n) (hw : w < 3) (hh : mI M (s + 30) w ≠ 0) (hj : j < n) (hw' : w' < 3) (hh' : mI M (s + 30) w' ≠ 0) : Ci G y_MS_compare (d + 3) [vr s, vi k, vi w, vi j, vi w'] M (fun r M' => mOk M' ∧ FI (vK s) M M' ∧ Sv M' s n ∧ -1 ≤ r ∧ r ≤ 1) := by
  have hn5 := h.n5
  obtain ⟨a1, a2⟩ := h.frac hk hw hh
  obtain ⟨b1, b2⟩ := h.frac hj hw' hh'
  have al := a1.low
  have bl := b1.low
  obtain ⟨V, g, c, e, t, W, -⟩ := id h
  refine k_MS_compare hO ⟨by omega, by omega⟩ ⟨by omega, by omega⟩ ⟨by omega, by omega⟩ ⟨by omega, by omega⟩ ?_
  rw [V.r11, V.n29, V.r0, a2, b2]
  refine ⟨V.k0, V.k29, by omega, by omega, W.1.1.1, (s_MU_compare (d := d) hO W.1 a1.1 b1.1 (by unfold suO frc; omega) (by unfold suO frc; omega) (by omega) (by omega)).mono (fun u M1 h1 => ?_)⟩
  obtain ⟨o1, f1, Z1, hu⟩ := h1
  have hu3 : u = -1 ∨ u = 0 ∨ u = 1 := by split at hu <;> (try split at hu) <;> omega
  exact ⟨⟨by omega, by omega⟩, o1, o1, f1.mono (fun y q => by omega), h.out f1 (fun y q => by omega) (W.out f1 Z1 (fun y q => by omega)), by omega, by omega⟩
end PR
