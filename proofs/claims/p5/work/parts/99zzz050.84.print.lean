section
/-! The solver: what it tells. -/
theorem s_digits2 {G : mG} {d u a ra c : Nat} {M : mM} {D : Nat} (hO : mOk M) (hZ : Sz M u) (hA : W3 M a ra) (oa : a + 1 < u + 11 ∨ u + 12 < a) (z1 : mI M a 1 ≤ 900) (hc : mK M c = 30) (hn : D ≤ mN M c) (hD : 0 < D) (hD2 : D < 100000) (hv : wv M a < 10 ^ D) (oc : c < u + 1 ∨ u + 20 < c) :
    Ci G y_MU_digits (d + 2) [vr u, vr a, vr c] M (fun x M' => mOk M' ∧ FI (fun x => x = u + 11 ∨ x = u + 12 ∨ x = c) M M' ∧ Sz M' u ∧ 0 < x ∧ x ≤ D ∧ ∀ j : Nat, (j : Int) < x → 0 ≤ mI M' c j ∧ mI M' c j ≤ 9) := by
  refine k_MU_digits hO ?_
  rw [hZ.1.2.2.2.1]
  refine ⟨hZ.1.1, (hZ.wh 11 (by decide)).1, (s_MW_copy hO (hZ.wh 11 (by decide)) hA (by omega) z1).mono (fun M1 h1 => ?_)⟩
  obtain ⟨g1, g2, g3, g4⟩ := h1
  have Z1 := hZ.step (c := 11) (by decide) rfl g2 g3.1
  refine ⟨g1, ?_⟩
  suffices H : ∀ (k : Nat) (l : Int) (M1 : mM), l + k + 1 = D → 0 ≤ l → mOk M1 → FI (fun x => x = u + 11 ∨ x = u + 12 ∨ x = c) M M1 → Sz M1 u → W3 M1 (u + 11) 900 → wv M1 (u + 11) < 10 ^ (k + 1) → (∀ j : Nat, (j : Int) < l → 0 ≤ mI M1 c j ∧ mI M1 c j ≤ 9) → h_MU_digits_10 G (d + 1) u c l M1 (fun x M' => mOk M' ∧ FI (fun x => x = u + 11 ∨ x = u + 12 ∨ x = c) M M' ∧ Sz M' u ∧ 0 < x ∧ x ≤ D ∧ ∀ j : Nat, (j : Int) < x → 0 ≤ mI M' c j ∧ mI M' c j ≤ 9) from
    H (D - 1) 0 M1 (by omega) (by omega) g1 (g2.mono (fun x q => by omega)) Z1 g3 (by rw [g4, show D - 1 + 1 = D by omega]; exact hv) (fun j hj => by omega)
  intro k
  induction k with
  | zero =>
    intro l M1 hk h0 hO1 F1 Z1 W1 hw hd
    refine k_MU_digits_10 hO1 ⟨by omega, by omega⟩ ?_
    rw [Z1.1.2.2.2.1]
    refine ⟨Z1.1.1, W1.1.1, (s_MW_tenth hO1 W1).mono (fun x M2 h2 => ?_)⟩
    obtain ⟨k1, k2, k3, k4, k5⟩ := h2
    have Z2 := Z1.step (c := 11) (by decide) rfl k2 k3.1
    have F2 := F1.trans (k2.mono (fun x q => by omega))
    have n2 : mN M2 c = mN M c := by rw [F2.2.1]
    refine ⟨⟨by omega, by omega⟩, k1, by rw [F2.1]; exact hc, by omega, fun M3 e3 => ?_⟩
    have f3 : FI (fun x => x = c) M2 M3 := by rw [e3]; exact FI.ui rfl
    have o3 : mOk M3 := by rw [e3]; exact mOk_UI k1 ⟨by omega, by omega⟩
    have hd3 : ∀ j : Nat, (j : Int) < l + 1 → 0 ≤ mI M3 c j ∧ mI M3 c j ≤ 9 := fun j hj => by
      rw [e3, mI_UI]
      by_cases z : j = l.toNat
      · rw [if_pos ⟨rfl, z⟩]
        omega
      · rw [if_neg (fun w => z w.2), k2.2.2.2.2.2.2 c (by omega)]
        exact hd j (by omega)
    have Z3 : Sz M3 u := ⟨Z2.1.fi f3, Z2.2.1.fi f3, Z2.2.2.1.fi f3, fun e he => (Z2.wh e he).out f3 (by
      have h1 : ∀ e ∈ szL, 1 ≤ e ∧ e ≤ 20 := by decide
      have h2 := h1 e he
      omega)⟩
    obtain ⟨W3', v3⟩ := k3.out f3 (by omega) (by omega)
    rw [Z3.1.2.2.2.1]
    refine ⟨Z3.1.1, W3'.1.1, (s_MW_isZero o3 W3'.1).mono (fun y M4 h4 => ?_)⟩
    obtain ⟨e4, hy⟩ := h4
    subst e4
    have hz : mI M4 (u + 11) 1 = 0 := W3'.zero.2 (by have hw' : wv M1 (u + 11) < 10 := hw; have := W1.nonneg; omega)
    rw [if_pos hz] at hy
    exact ⟨⟨by omega, by omega⟩, o3, fun q => by omega, fun _ => ⟨o3, F2.trans (f3.mono (fun x q => by omega)), Z3, by omega, by omega, hd3⟩⟩
  | succ k ih =>
    intro l M1 hk h0 hO1 F1 Z1 W1 hw hd
    refine k_MU_digits_10 hO1 ⟨by omega, by omega⟩ ?_
    rw [Z1.1.2.2.2.1]
    refine ⟨Z1.1.1, W1.1.1, (s_MW_tenth hO1 W1).mono (fun x M2 h2 => ?_)⟩
    obtain ⟨k1, k2, k3, k4, k5⟩ := h2
    have Z2 := Z1.step (c := 11) (by decide) rfl k2 k3.1
    have F2 := F1.trans (k2.mono (fun x q => by omega))
    have n2 : mN M2 c = mN M c := by rw [F2.2.1]
    refine ⟨⟨by omega, by omega⟩, k1, by rw [F2.1]; exact hc, by omega, fun M3 e3 => ?_⟩
    have f3 : FI (fun x => x = c) M2 M3 := by rw [e3]; exact FI.ui rfl
    have o3 : mOk M3 := by rw [e3]; exact mOk_UI k1 ⟨by omega, by omega⟩
    have hd3 : ∀ j : Nat, (j : Int) < l + 1 → 0 ≤ mI M3 c j ∧ mI M3 c j ≤ 9 := fun j hj => by
      rw [e3, mI_UI]
      by_cases z : j = l.toNat
      · rw [if_pos ⟨rfl, z⟩]
        omega
      · rw [if_neg (fun w => z w.2), k2.2.2.2.2.2.2 c (by omega)]
        exact hd j (by omega)
    have Z3 : Sz M3 u := ⟨Z2.1.fi f3, Z2.2.1.fi f3, Z2.2.2.1.fi f3, fun e he => (Z2.wh e he).out f3 (by
      have h1 : ∀ e ∈ szL, 1 ≤ e ∧ e ≤ 20 := by decide
      have h2 := h1 e he
      omega)⟩
    obtain ⟨W3', v3⟩ := k3.out f3 (by omega) (by omega)
    rw [Z3.1.2.2.2.1]
    refine ⟨Z3.1.1, W3'.1.1, (s_MW_isZero o3 W3'.1).mono (fun y M4 h4 => ?_)⟩
    obtain ⟨e4, hy⟩ := h4
    subst e4
    refine ⟨⟨by split at hy <;> omega, by split at hy <;> omega⟩, o3, fun q => ih (l + 1) M4 (by omega) (by omega) o3 (F2.trans (f3.mono (fun x q => by omega))) Z3 W3' ?_ hd3, fun _ => ⟨o3, F2.trans (f3.mono (fun x q => by omega)), Z3, by omega, by omega, hd3⟩⟩
    rw [v3, k4]
    have : (10 : Int) ^ (k + 1 + 1) = 10 ^ (k + 1) * 10 := Int.pow_succ _ _
    generalize (10 : Int) ^ (k + 1) = P at *
    omega
theorem Hs.out {S : Nat → Prop} {M M' : mM} {s n w : Nat} (h : Hs M s n w) (f : FI S M M') (h0 : ¬ S (s + 30)) (hs : ∀ y, S y → y < s + 68) (hw : w < 3) : Hs M' s n w := by
  obtain ⟨h1, h2⟩ := h
  unfold Hs
  rw [f.2.2.2.2.2.2 _ h0]
  refine ⟨h1, fun q => ?_⟩
  obtain ⟨x, X, v⟩ := h2 q
  exact ⟨x, X.out f (fun y q => by have := hs y q; omega), v⟩
theorem Sv.out {S : Nat → Prop} {M M' : mM} {s n : Nat} (h : Sv M s n) (f : FI S M M') (hs : ∀ y, S y → (s < y ∧ y < s + 22) ∨ (s + 42 ≤ y ∧ y ≤ s + 67) ∨ y < s ∨ s + 21067 < y) (hW : Wk M' s) : Sv M' s n := by
  have hn5 := h.n5
  obtain ⟨V, g, c, e, t, W, T, R, H, hc⟩ := h
  have sg : sameG M M' s := sameG.of f (fun q => by have := hs s q; omega) (fun y a b q => by have := hs y q; omega)
  have fe := f.2.2.2.2.2.2
  refine ⟨V.fi f, sg.gw g, sg.gb c, by rw [sg.1]; exact e, t.out sg (fe _ (fun q => by have := hs _ q; omega)), hW, fun i j hi hj => (T i j hi hj).out f (fun y q => by have := hs y q; unfold cel; omega), fun e he => (R e he).out f (fun y q => by have := hs y q; omega), fun w hw => ?_, fun q => (hc (by rw [← fe (s + 30) (fun q => by have := hs _ q; omega)]; exact q)).out sg (fe _ (fun q => by have := hs _ q; omega))⟩
  obtain ⟨h1, h2⟩ := H w hw
  unfold Hs
  rw [fe _ (fun q => by have := hs _ q; omega)]
  refine ⟨h1, fun q => ?_⟩
  obtain ⟨x, X, v⟩ := h2 q
  exact ⟨x, X.out2 f (fun i y hi q => by have := hs y q; omega), v⟩
theorem fv_top {M : mM} {f r : Nat} (hF : Fq M f r) (h0 : 0 ≤ fv M f) (h1 : fv M f ≤ 1) : wv M (f + 1) ≤ wv M (f + 3) := by
  have a := fv_abs hF h1 (by grind)
  rw [fv_wv hF h0] at a
  exact a.1
theorem p160 : (16777216 : Int) ^ 21 < 10 ^ 160 := by decide
section PR
variable {G : mG} {d s n k w : Nat} {M : mM}
/-- the fraction of state k for w -/
abbrev frc (s k w : Nat) : Nat := s + (68 + 5 * w) + 25 * k
theorem Sv.frac (h : Sv M s n) (hk : k < n) (hw : w < 3) (hh : mI M (s + 30) w ≠ 0) : okF M (frc s k w) ∧ mR M (s + 29) (3 * (k : Int) + (w : Int)).toNat = frc s k w := by
  have hn5 := h.n5
  obtain ⟨V, g, c, e, t, W, T, R, H, hc⟩ := h
  obtain ⟨h1, h2⟩ := H w hw
  obtain ⟨x, X, v⟩ := h2 (by omega)
  obtain ⟨x1, x2, x3⟩ := X k hk
  refine ⟨⟨x1, x2, by rw [x3]; exact (v k hk).1, by rw [x3]; exact (v k hk).2⟩, ?_⟩
  rw [show (3 * (k : Int) + (w : Int)).toNat = 3 * k + w by omega, V.f29 k w (by omega) hw]
  unfold frc
  omega
theorem okF.low {M : mM} {f : Nat} (h : okF M f) : wv M (f + 1) ≤ wv M (f + 3) ∧ mI M (f + 1) 1 ≤ 21 ∧ mI M (f + 3) 1 ≤ 21 ∧ wv M (f + 1) < 10 ^ 160 ∧ wv M (f + 3) < 10 ^ 160 := by
  obtain ⟨h1, h2, h3, h4⟩ := h
  have a := fv_top h1 h4 (smp_b h3).1
  have b := smp_size h1 h2 h3
  have c1 := h1.2.1.lt
  have c2 := h1.2.2.1.lt
  have d1 : (16777216 : Int) ^ (mI M (f + 1) 1).toNat ≤ 16777216 ^ 21 := pow_mono (by omega)
  have d2 : (16777216 : Int) ^ (mI M (f + 3) 1).toNat ≤ 16777216 ^ 21 := pow_mono (by omega)
  have := p160
  exact ⟨a, b.1, b.2, by omega, by omega⟩
theorem s_MS_isThere {l1 l2 : Int} (h1 : i32 l1) (h2 : i32 l2) (hO : mOk M) (h : Sv M s n) : Ci G y_MS_isThere d [vr s, vi l1, vi l2] M (fun r M' => M' = M ∧ (r = 0 ∨ r = 1) ∧ (r ≠ 0 ↔ (0 ≤ l1 ∧ l1 < n ∧ 0 ≤ l2 ∧ l2 ≤ 2 ∧ mI M (s + 30) l2.toNat ≠ 0))) := by
  obtain ⟨V, g, c, e, -⟩ := h
  refine k_MS_isThere hO h1 h2 ?_
  rw [V.r12, V.n30, e]
  refine ⟨fun _ => ⟨V.k0, fun _ _ _ => ⟨V.k30, by omega⟩⟩, fun v hv => ⟨rfl, by split at hv <;> omega, ?_⟩⟩
  by_cases q : l1 < 0 ∨ ((n : Int) ≤ l1 ∨ (l2 < 0 ∨ (2 < l2 ∨ mI M (s + 30) l2.toNat = 0)))
  · rw [if_pos q] at hv
    exact ⟨fun w => absurd hv w, fun w => by omega⟩
  · rw [if_neg q] at hv
    exact ⟨fun _ => by omega, fun _ => by omega⟩
theorem s_MS_compare {j w' : Nat} (hO : mOk M) (h : Sv M s n) (hk : k < n) (hw : w < 3) (hh : mI M (s + 30) w ≠ 0) (hj : j < n) (hw' : w' < 3) (hh' : mI M (s + 30) w' ≠ 0) : Ci G y_MS_compare (d + 3) [vr s, vi k, vi w, vi j, vi w'] M (fun r M' => mOk M' ∧ FI (vH s) M M' ∧ Sv M' s n ∧ -1 ≤ r ∧ r ≤ 1) := by
  have hn5 := h.n5
  obtain ⟨a1, a2⟩ := h.frac hk hw hh
  obtain ⟨b1, b2⟩ := h.frac hj hw' hh'
  have al := a1.low
  have bl := b1.low
  obtain ⟨V, g, c, e, t, W, -⟩ := id h
  refine k_MS_compare hO ⟨by omega, by omega⟩ ⟨by omega, by omega⟩ ⟨by omega, by omega⟩ ⟨by omega, by omega⟩ ?_
  rw [V.r11, V.n29, V.r0, a2, b2]
  refine ⟨V.k0, V.k29, by omega, by omega, W.1.1.1, (s_MU_compare (d := d) hO W.1 a1.1 b1.1 (by unfold suO frc; omega) (by unfold suO frc; omega) (by omega) (by omega)).mono (fun u M1 h1 => ?_)⟩
  obtain ⟨o1, f1, Z1, hu⟩ := h1
  have hu3 : u = -1 ∨ u = 0 ∨ u = 1 := by split at hu <;> (try split at hu) <;> omega
  exact ⟨⟨by omega, by omega⟩, o1, o1, f1.mono (fun y q => by omega), h.out f1 (fun y q => by omega) (W.out f1 Z1 (fun y q => by omega)), by omega, by omega⟩
end PR
end
section
/-! The solver: printing, telling, adopting, the next state. -/
section PR
variable {G : mG} {d s n k w : Nat} {M : mM}
abbrev syS (s o : Nat) : Nat → Prop := fun y => y = s + 12 ∨ y = s + 13 ∨ y = s + 67 ∨ y = o
theorem s_MS_say {a o ra p : Nat} (hO : mOk M) (h : Sv M s n) (hA : W3 M a ra) (oa : s + 67 < a) (z1 : mI M a 1 ≤ 900) (hv : wv M a < 10 ^ 160) (ho : mK M o = 30) (hp : p + 160 ≤ mN M o) (hp2 : p < 10000) (oo : o < s ∨ s + 21067 < o) :
    Ci G y_MS_say (d + 3) [vr s, vr a, vr o, vi p] M (fun r M' => mOk M' ∧ FI (syS s o) M M' ∧ Sv M' s n ∧ (p : Int) < r ∧ r ≤ (p : Int) + 160) := by
  obtain ⟨V, g, c, e, t, W, -⟩ := id h
  refine k_MS_say hO ⟨by omega, by omega⟩ ?_
  rw [V.r0, V.r31]
  refine ⟨V.k0, W.1.1.1, (s_digits2 (d := d) (D := 160) hO W.1 hA (by omega) z1 V.k67 (by rw [V.n67]; omega) (by omega) (by omega) hv (by omega)).mono (fun x M1 h1 => ?_)⟩
  obtain ⟨o1, f1, Z1, x0, x1, hd⟩ := h1
  have W1 : Wk M1 s := W.out f1 Z1 (fun y q => by omega)
  have S1 : Sv M1 s n := h.out f1 (fun y q => by omega) W1
  refine ⟨⟨by omega, by omega⟩, o1, ?_⟩
  suffices H : ∀ (c l : Nat) (M2 : mM), (l : Int) + c = x → mOk M2 → FI (fun y => y = o) M1 M2 → h_MS_say_17 G (d + 2) s o p x l M2 (fun r M' => mOk M' ∧ FI (syS s o) M M' ∧ Sv M' s n ∧ (p : Int) < r ∧ r ≤ (p : Int) + 160) from
    H x.toNat 0 M1 (by omega) o1 FI.refl
  intro c
  induction c with
  | zero =>
    intro l M2 hl o2 f2
    exact k_MS_say_17 o2 ⟨by omega, by omega⟩ ⟨by omega, by omega⟩ ⟨by omega, by omega⟩ ⟨fun _ => ⟨o2, (f1.mono (fun y q => by omega)).trans (f2.mono (fun y q => by omega)), S1.out f2 (fun y q => by omega) (W1.out f2 (W1.1.far f2 (fun y q => by omega)) (fun y q => by omega)), by omega, by omega⟩, fun q => by omega⟩
  | succ c ih =>
    intro l M2 hl o2 f2
    have V2 := S1.1.fi f2
    have n2 : mN M2 o = mN M o := by rw [f2.2.1, f1.2.1]
    have k2 : mK M2 o = 30 := by rw [f2.1, f1.1]; exact ho
    have hdl := hd (x - 1 - l).toNat (by omega)
    refine k_MS_say_17 o2 ⟨by omega, by omega⟩ ⟨by omega, by omega⟩ ⟨by omega, by omega⟩ ⟨fun q => by omega, fun _ => ?_⟩
    rw [V2.r31, V2.n67, n2, f2.2.2.2.2.2.2 (s + 67) (by omega)]
    refine ⟨V2.k0, V2.k67, by omega, k2, by omega, ⟨by omega, by omega⟩, fun M3 e3 => ?_⟩
    have f3 : FI (fun y => y = o) M2 M3 := by rw [e3]; exact FI.ui rfl
    have o3 : mOk M3 := by rw [e3]; exact mOk_UI o2 ⟨by omega, by omega⟩
    exact ih (l + 1) M3 (by omega) o3 (f2.trans f3)
theorem s_MS_print {o : Nat} (hO : mOk M) (h : Sv M s n) (hk : k < n) (hw : w < 3) (hh : mI M (s + 30) w ≠ 0) (ho : mK M o = 30) (hp : 400 ≤ mN M o) (oo : o < s ∨ s + 21067 < o) :
    Ci G y_MS_print (d + 4) [vr s, vi k, vi w, vr o] M (fun r M' => mOk M' ∧ FI (syS s o) M M' ∧ Sv M' s n ∧ 0 ≤ r ∧ r ≤ 321) := by
  have hn5 := h.n5
  obtain ⟨a1, a2⟩ := h.frac hk hw hh
  have al := a1.low
  obtain ⟨V, g, c, e, t, W, -⟩ := id h
  obtain ⟨F, -, -, -⟩ := id a1
  refine k_MS_print hO ⟨by omega, by omega⟩ ⟨by omega, by omega⟩ ?_
  rw [V.r11, V.n29, a2, F.1.2.1]
  refine ⟨V.k0, V.k29, by omega, F.1.1, (s_MS_say (d := d) (p := 0) hO h F.2.1 (by unfold frc; omega) (by omega) al.2.2.2.1 ho (by omega) (by omega) oo).mono (fun x M1 h1 => ?_)⟩
  obtain ⟨o1, f1, S1, x0, x1⟩ := h1
  have hs1 : ∀ y, syS s o y → y < frc s k w ∨ frc s k w + 4 < y := fun y q => by unfold frc; omega
  have F1 := F.out f1 hs1
  have a1' := a1.out f1 hs1
  have al1 := a1'.low
  rw [F1.1.1.2.2]
  refine ⟨⟨by omega, by omega⟩, o1, F1.1.1.1, F1.1.2.2.1.1.1, (s_MW_isOne o1 F1.1.2.2.1).mono (fun y M2 h2 => ?_)⟩
  obtain ⟨e2, hy⟩ := h2
  subst e2
  refine ⟨⟨by split at hy <;> omega, by split at hy <;> omega⟩, o1, fun _ => ⟨by rw [f1.1]; exact ho, by rw [f1.2.1]; omega, fun M3 e3 => ?_⟩, fun _ => ⟨o1, f1, S1, by omega, by omega⟩⟩
  have f3 : FI (fun y => y = o) M2 M3 := by rw [e3]; exact FI.ui rfl
  have o3 : mOk M3 := by rw [e3]; exact mOk_UI o1 ⟨by omega, by omega⟩
  have W1 := S1.2.2.2.2.2.1
  have S3 : Sv M3 s n := S1.out f3 (fun y q => by omega) (W1.out f3 (W1.1.far f3 (fun y q => by omega)) (fun y q => by omega))
  have hs3 : ∀ y, y = o → y < frc s k w ∨ frc s k w + 4 < y := fun y q => by unfold frc; omega
  have F3 := F1.1.out f3 hs3
  have al3 := (a1'.out f3 hs3).low
  rw [F3.1.1.2.2, show x + 1 = ((x + 1).toNat : Int) by omega]
  refine ⟨F3.1.1.1, S3.1.k0, (s_MS_say (d := d) (p := (x + 1).toNat) o3 S3 F3.1.2.2.1 (by unfold frc; omega) (by omega) al3.2.2.2.2 (by rw [f3.1, f1.1]; exact ho) (by rw [f3.2.1, f1.2.1]; omega) (by omega) oo).mono (fun z M4 h4 => ?_)⟩
  obtain ⟨o4, f4, S4, z0, z1⟩ := h4
  exact ⟨⟨by omega, by omega⟩, o4, o4, (f1.trans (f3.mono (fun y q => by omega))).trans f4, S4, by omega, by omega⟩
/-- only told commands have changed -/
theorem Sv.told {M' : mM} (h : Sv M s n) (f : FI (fun y => y = s + 32) M M') (ht : TW M' s) : Sv M' s n := by
  have hn5 := h.n5
  obtain ⟨V, g, c, e, t, W, T, R, H, hc⟩ := h
  have sg : sameG M M' s := sameG.of f (by omega) (fun y a b q => by omega)
  have fe := f.2.2.2.2.2.2
  exact ⟨V.fi f, sg.gw g, sg.gb c, by rw [sg.1]; exact e, ht, W.far f (fun y q => by omega), T.out f (fun y q => by omega), fun e he => (R e he).out f (fun y q => by omega), fun w hw => (H w hw).out f (by omega) (fun y q => by omega) hw, fun q => (hc (by rw [← fe (s + 30) (by omega)]; exact q)).out sg (fe _ (by omega))⟩
theorem s_MS_tell {i : Nat} (hO : mOk M) (h : Sv M s n) (hk : k < n) (hi : (i : Int) < mny M s k) : Cv G y_MS_tell d [vr s, vi k, vi i] M (fun M' => mOk M' ∧ FI (vH s) M M' ∧ Sv M' s n) := by
  have hn5 := h.n5
  obtain ⟨V, g, c, e, t, W, -⟩ := id h
  have h3 := g.2.2.1
  have hcm := g.cmd (i := k) (by omega)
  have hm0 : mny M s k ≤ 4200 := by unfold mny; omega
  refine k_MS_tell hO ⟨by omega, by omega⟩ ⟨by omega, by omega⟩ ?_
  rw [V.r14, V.n32, Int.toNat_natCast]
  refine ⟨V.k0, V.k32, by omega, fun M1 e1 => ?_⟩
  have f1 : FI (fun y => y = s + 32) M M1 := by rw [e1]; exact FI.ui rfl
  have o1 : mOk M1 := by rw [e1]; exact mOk_UI hO ⟨by omega, by omega⟩
  have sg : sameG M M1 s := sameG.of f1 (by omega) (fun y a b q => by omega)
  refine ⟨o1, f1.mono (fun y q => by omega), h.told f1 (fun j hj => ?_)⟩
  rw [sg.1] at hj
  rw [sg.hm, e1, mI_UI]
  by_cases z : j = k
  · rw [if_pos ⟨rfl, z⟩, z]
    exact ⟨by omega, fun _ => hi⟩
  · rw [if_neg (fun w => z w.2)]
    exact t j hj
theorem s_MS_adopt (hO : mOk M) (h : Sv M s n) (hh : mI M (s + 30) 0 = 1) : Cv G y_MS_adopt (d + 1) [vr s] M (fun M' => mOk M' ∧ FI (vH s) M M' ∧ Sv M' s n) := by
  have hn5 := h.n5
  obtain ⟨V, g, c, e, t, W, T, R, H, hc⟩ := id h
  have hc := hc hh
  refine k_MS_adopt hO ?_
  suffices Hh : ∀ (c k : Nat) (M2 : mM), k + c = n → mOk M2 → FI (fun y => y = s + 32) M M2 → TW M2 s → h_MS_adopt_2 G d s k M2 (fun M' => mOk M' ∧ FI (vH s) M M' ∧ Sv M' s n) from
    Hh n 0 M (by omega) hO FI.refl t
  intro c
  induction c with
  | zero =>
    intro k M2 hk o2 f2 t2
    have V2 := V.fi f2
    refine k_MS_adopt_2 o2 ⟨by omega, by omega⟩ ?_
    rw [f2.2.2.2.2.2.2 s (by omega), e]
    exact ⟨V2.k0, fun _ => ⟨o2, f2.mono (fun y q => by omega), h.told f2 t2⟩, fun q => by omega⟩
  | succ c ih =>
    intro k M2 hk o2 f2 t2
    have S2 := h.told f2 t2
    have V2 := V.fi f2
    have sg : sameG M M2 s := sameG.of f2 (by omega) (fun y a b q => by omega)
    have g2 := sg.gw g
    have h3 := g2.2.2.1
    have e2 : mI M2 s 1 = n := by rw [sg.1]; exact e
    have hcm := g2.cmd (i := k) (by omega)
    have hm0 : 0 ≤ mny M2 s k ∧ mny M2 s k ≤ 4200 := by unfold mny; omega
    refine k_MS_adopt_2 o2 ⟨by omega, by omega⟩ ?_
    rw [e2, V2.r14]
    refine ⟨V2.k0, fun q => by omega, fun _ => (s_MS_many o2 V2 g2 (by omega)).mono (fun y M3 h3' => ?_)⟩
    obtain ⟨e3, hy⟩ := h3'
    subst e3
    rw [V2.r15, V2.n33, V2.n32, Int.toNat_natCast, f2.2.2.2.2.2.2 (s + 33) (by omega)]
    refine ⟨⟨by omega, by omega⟩, o2, fun _ => ⟨V2.k0, V2.k33, by omega⟩, fun v hv => ?_⟩
    have hck := hc k (by omega)
    rw [← sg.hm] at hck
    have hv2 : 0 ≤ v ∧ (0 < mny M3 s k → v < mny M3 s k) ∧ v ≤ 4200 := by
      by_cases z : y = 0
      · rw [if_pos z] at hv
        omega
      · rw [if_neg z] at hv
        have := hck (by omega)
        omega
    refine ⟨V2.k32, by omega, ⟨by omega, by omega⟩, fun M4 e4 => ?_⟩
    have f4 : FI (fun y => y = s + 32) M3 M4 := by rw [e4]; exact FI.ui rfl
    have o4 : mOk M4 := by rw [e4]; exact mOk_UI o2 ⟨by omega, by omega⟩
    have sg4 : sameG M3 M4 s := sameG.of f4 (by omega) (fun y a b q => by omega)
    refine ih (k + 1) M4 (by omega) o4 (f2.trans f4) (fun j hj => ?_)
    rw [sg4.1] at hj
    rw [sg4.hm, e4, mI_UI]
    by_cases z : j = k
    · rw [if_pos ⟨rfl, z⟩, z]
      exact ⟨hv2.1, hv2.2.1⟩
    · rw [if_neg (fun w => z w.2)]
      exact t2 j hj
theorem s_MS_hasValues (hO : mOk M) (h : Sv M s n) : Ci G y_MS_hasValues d [vr s] M (fun r M' => M' = M ∧ (r = 0 ∨ r = 1) ∧ r = mI M (s + 30) 0) := by
  obtain ⟨V, g, c, e, t, W, T, R, H, hc⟩ := id h
  have a := (H 0 (by omega)).1
  refine k_MS_hasValues hO ?_
  rw [V.r12, V.n30]
  exact ⟨V.k0, V.k30, by omega, a, rfl, a, rfl⟩
end PR
end
