/-! The reference's solver in a memory that agrees on its cells. -/
section AG
variable {M M' : mM} {s e f r n : Nat}
/-- the cells from s to e are the same -/
def Ag (M M' : mM) (s e : Nat) : Prop := ∀ x, s ≤ x → x ≤ e → mK M' x = mK M x ∧ mN M' x = mN M x ∧ mR M' x = mR M x ∧ mI M' x = mI M x
theorem Ag.sub {s' e' : Nat} (h : Ag M M' s e) (h1 : s ≤ s') (h2 : e' ≤ e) : Ag M M' s' e' := fun x a b => h x (by omega) (by omega)
theorem Wh.ag {a : Nat} (h : Wh M a r) (k : Ag M M' a (a + 1)) : Wh M' a r := by
  obtain ⟨k1, k2, k3, k4⟩ := k a (Nat.le_refl _) (by omega)
  obtain ⟨q1, q2, q3, q4⟩ := k (a + 1) (by omega) (Nat.le_refl _)
  unfold Wh at h ⊢
  rw [k1, k3, k4, q1, q2]
  exact h
theorem wv.ag {a : Nat} (k : Ag M M' a (a + 1)) : wv M' a = wv M a := by
  unfold wv
  rw [(k a (Nat.le_refl _) (by omega)).2.2.2, (k (a + 1) (by omega) (Nat.le_refl _)).2.2.2]
theorem W3.ag {a : Nat} (h : W3 M a r) (k : Ag M M' a (a + 1)) : W3 M' a r := by
  obtain ⟨h1, h2, h3⟩ := h
  refine ⟨h1.ag k, ?_, ?_⟩
  · unfold WD at h2 ⊢
    rw [(k a (Nat.le_refl _) (by omega)).2.2.2, (k (a + 1) (by omega) (Nat.le_refl _)).2.2.2]
    exact h2
  · unfold WT at h3 ⊢
    rw [(k a (Nat.le_refl _) (by omega)).2.2.2, (k (a + 1) (by omega) (Nat.le_refl _)).2.2.2]
    exact h3
theorem Fk.ag (h : Fk M f) (k : Ag M M' f f) : Fk M' f := by
  obtain ⟨k1, k2, k3, k4⟩ := k f (Nat.le_refl _) (Nat.le_refl _)
  unfold Fk at h ⊢
  rw [k1, k3]
  exact h
theorem Ft.ag (h : Ft M f r) (k : Ag M M' f (f + 4)) : Ft M' f r :=
  ⟨h.1.ag (k.sub (by omega) (by omega)), h.2.1.ag (k.sub (by omega) (by omega)), h.2.2.ag (k.sub (by omega) (by omega))⟩
theorem Fq.ag (h : Fq M f r) (k : Ag M M' f (f + 4)) : Fq M' f r := by
  obtain ⟨h1, h2, h3, h4, h5⟩ := h
  refine ⟨h1.ag (k.sub (by omega) (by omega)), h2.ag (k.sub (by omega) (by omega)), h3.ag (k.sub (by omega) (by omega)), ?_, ?_⟩
  · rw [(k f (Nat.le_refl _) (by omega)).2.2.2]; exact h4
  · rw [wv.ag (k.sub (by omega) (by omega))]; exact h5
theorem Fc.ag (h : Fc M f) (k : Ag M M' f (f + 4)) : Fc M' f := by
  unfold Fc xn at h ⊢
  rw [(k f (Nat.le_refl _) (by omega)).2.2.2, wv.ag (a := f + 1) (k.sub (by omega) (by omega)), wv.ag (a := f + 3) (k.sub (by omega) (by omega))]
  exact h
theorem fv.ag (k : Ag M M' f (f + 4)) : fv M' f = fv M f := by
  unfold fv sn sd
  rw [(k f (Nat.le_refl _) (by omega)).2.2.2, wv.ag (a := f + 1) (k.sub (by omega) (by omega)), wv.ag (a := f + 3) (k.sub (by omega) (by omega))]
theorem Sz.ag {u : Nat} (h : Sz M u) (k : Ag M M' u (u + 20)) : Sz M' u := by
  obtain ⟨h1, h2, h3, h4⟩ := h
  refine ⟨?_, h2.ag (k.sub (by omega) (by omega)), h3.ag (k.sub (by omega) (by omega)), fun c hc => ?_⟩
  · obtain ⟨k1, k2, k3, k4⟩ := k u (Nat.le_refl _) (by omega)
    unfold Sk at h1 ⊢
    rw [k1, k3]
    exact h1
  · have hc' : c = 2 ∨ c = 4 ∨ c = 7 ∨ c = 9 ∨ c = 11 ∨ c = 13 ∨ c = 15 ∨ c = 17 ∨ c = 19 := by
      have : c ∈ [2, 4, 7, 9, 11, 13, 15, 17, 19] := hc
      simpa using this
    exact (h4 c hc).ag (k.sub (by omega) (by omega))
theorem Vk.ag (h : Vk M s) (k : Ag M M' s (s + 21067)) : Vk M' s := by
  have kK : ∀ i, i ≤ 67 → mK M' (s + i) = mK M (s + i) := fun i hi => (k (s + i) (by omega) (by omega)).1
  have kN : ∀ i, i ≤ 67 → mN M' (s + i) = mN M (s + i) := fun i hi => (k (s + i) (by omega) (by omega)).2.1
  have kR : ∀ i, i ≤ 67 → mR M' (s + i) = mR M (s + i) := fun i hi => (k (s + i) (by omega) (by omega)).2.2.1
  have k0 := k s (Nat.le_refl _) (by omega)
  unfold Vk at h ⊢
  rw [k0.1, k0.2.2.1, kK 22 (by omega), kK 23 (by omega), kK 24 (by omega), kK 25 (by omega), kK 26 (by omega), kK 27 (by omega), kK 28 (by omega), kK 29 (by omega), kK 30 (by omega), kK 31 (by omega), kK 32 (by omega), kK 33 (by omega), kK 34 (by omega), kK 35 (by omega), kK 36 (by omega), kK 37 (by omega), kK 38 (by omega), kK 39 (by omega), kK 40 (by omega), kK 41 (by omega), kK 67 (by omega), kN 22 (by omega), kN 23 (by omega), kN 24 (by omega), kN 25 (by omega), kN 26 (by omega), kN 27 (by omega), kN 28 (by omega), kN 29 (by omega), kN 30 (by omega), kN 31 (by omega), kN 32 (by omega), kN 33 (by omega), kN 34 (by omega), kN 35 (by omega), kN 36 (by omega), kN 37 (by omega), kN 38 (by omega), kN 39 (by omega), kN 40 (by omega), kN 41 (by omega), kN 67 (by omega), kR 29 (by omega), kR 31 (by omega), kR 38 (by omega), kR 41 (by omega)]
  exact h
theorem sameG.ag (k : Ag M M' s (s + 21067)) : sameG M M' s := by
  have k0 := (k s (Nat.le_refl _) (by omega)).2.2.2
  exact ⟨by rw [k0], by rw [k0], by rw [k0], fun x a b => (k x (by omega) (by omega)).2.2.2⟩
theorem Sv.ag (h : Sv M s n) (k : Ag M M' s (s + 21067)) : Sv M' s n := by
  have hn5 := h.n5
  obtain ⟨V, g, c, e, t, W, T, R, H, hc⟩ := h
  have sg := sameG.ag k
  have kI : ∀ i, i ≤ 21067 → mI M' (s + i) = mI M (s + i) := fun i hi => (k (s + i) (by omega) (by omega)).2.2.2
  refine ⟨V.ag k, sg.gw g, sg.gb c, by rw [sg.1]; exact e, t.out sg (kI 32 (by omega)), ⟨W.1.ag (k.sub (by omega) (by omega)), W.2.1.ag (k.sub (by omega) (by omega)), W.2.2.1.ag (k.sub (by omega) (by omega)), W.2.2.2.1.ag (k.sub (by omega) (by omega)), W.2.2.2.2.1.ag (k.sub (by omega) (by omega)), W.2.2.2.2.2.ag (k.sub (by omega) (by omega))⟩, fun i j hi hj => (T i j hi hj).ag (k.sub (by unfold cel; omega) (by unfold cel; omega)), fun e he i hi => (R e he i hi).ag (k.sub (by omega) (by omega)), fun w hw => ?_, fun q => (hc (by rw [← kI 30 (by omega)]; exact q)).out sg (kI 33 (by omega))⟩
  obtain ⟨h1, h2⟩ := H w hw
  unfold Hs
  rw [kI 30 (by omega)]
  refine ⟨h1, fun q => ?_⟩
  obtain ⟨x, X, v⟩ := h2 q
  refine ⟨x, fun i hi => ?_, v⟩
  obtain ⟨x1, x2, x3⟩ := X i hi
  have ka : Ag M M' (s + (68 + 5 * w) + 25 * i) (s + (68 + 5 * w) + 25 * i + 4) := k.sub (by omega) (by omega)
  exact ⟨x1.ag ka, x2.ag ka, by rw [fv.ag ka]; exact x3⟩
end AG
