/-! The class's machine: stop, settle, relate, store, compute. -/
section MAB
variable {G : mG} {d z m U Ab Be C Ab0 Be0 C0 t c p O P K : Nat} {M0 M M' M1 M2 : mM} {S R : Nat → Prop}
theorem mtb.refl : mtb m M M := fun _ _ _ => rfl
theorem mtb.trans (h : mtb m M M1) (k : mtb m M1 M2) : mtb m M M2 := fun b h1 h2 => by rw [k b h1 h2, h b h1 h2]
theorem PK.fa (h : PK M z p O P K) (f : FA S R M M') (hp : ¬ R p) : PK M' z p O P K := by
  obtain ⟨h1, ⟨r0, r1⟩, ⟨k0, k1, n0, n1⟩, sp, ⟨z0, z1, z2⟩, hc, hl⟩ := id h
  have hpz : p < mZ M := by omega
  have zz := f.1.1
  obtain ⟨fp1, -, -, fp4, -⟩ := f.2 p hpz
  have fp := fp4 hp
  obtain ⟨fO1, fO2, -⟩ := f.2 O z1
  obtain ⟨fP1, fP2, -⟩ := f.2 P z2
  refine ⟨by rw [fp1]; exact h1, by rw [fp]; exact ⟨r0, r1⟩, by rw [fO1, fO2, fP1, fP2]; exact ⟨k0, k1, n0, n1⟩, sp, ⟨by omega, by omega, by omega⟩, hc, ?_⟩
  have kk : ∀ i, i ≤ 15 → mK M' (p + i) = mK M (p + i) := fun i hi => (f.2 (p + i) (by omega)).1
  have nn : ∀ i, i ≤ 15 → mN M' (p + i) = mN M (p + i) := fun i hi => (f.2 (p + i) (by omega)).2.1
  unfold PL at hl ⊢
  rw [fp, kk 3 (by omega), kk 4 (by omega), kk 5 (by omega), kk 6 (by omega), kk 7 (by omega), kk 8 (by omega), kk 9 (by omega), kk 10 (by omega), kk 11 (by omega), kk 12 (by omega), kk 13 (by omega), kk 14 (by omega), kk 15 (by omega), nn 3 (by omega), nn 4 (by omega), nn 5 (by omega), nn 6 (by omega), nn 7 (by omega), nn 8 (by omega), nn 9 (by omega), nn 10 (by omega), nn 11 (by omega), nn 12 (by omega), nn 13 (by omega), nn 14 (by omega), nn 15 (by omega)]
  exact hl
/-- a field of the machine is written -/
theorem ms_fld {j : Nat} {v : Int} (h : MS M0 z m U Ab0 Be0 C0 M t c) (hv : i32 v) (e : M' = mUI M m j v) (j4 : j ≠ 4) (j8 : j ≠ 8) (j9 : j ≠ 9) (j15 : j ≠ 15) : MS M0 z m U Ab0 Be0 C0 M' t c ∧ mtb m M M' := by
  obtain ⟨Ab, Be, C, ok, hk, hf, hab, hr, ⟨h8, htC, hb⟩, hc, hm⟩ := h
  have f : FI (fun b => b = m) M M' := by rw [e]; exact FI.ui rfl
  have g : ∀ i, i ≠ j → mI M' m i = mI M m i := fun i hi => by rw [mI_ui m i e, if_neg (fun q => hi q.2)]
  have mB : Be ≠ m := by have := hk.2.2.2.2.2.1; omega
  refine ⟨ms_step (t' := t) (c' := c) (by rw [e]; exact mOk_UI ok hv) hk hf hab hr hm (f.mono (fun _ q => Or.inl q)) (g 4 (fun q => j4 q.symm)) (g 9 (fun q => j9 q.symm)) (by rw [g 8 (fun q => j8 q.symm)]; exact h8) htC (fun i hi => by rw [f.2.2.2.2.2.2 Be mB]; exact hb i hi) (by rw [g 15 (fun q => j15 q.symm)]; exact hc), fun b h1 h2 => f.2.2.2.2.2.2 b (by omega)⟩
/-- the pile gets lower -/
theorem ms_top {t' : Nat} {v : Int} (h : MS M0 z m U Ab0 Be0 C0 M t c) (hv : v = t') (htt : t' ≤ t) (e : M' = mUI M m 8 v) : MS M0 z m U Ab0 Be0 C0 M' t' c ∧ mtb m M M' ∧ FI (fun b => b = m) M M' := by
  obtain ⟨Ab, Be, C, ok, hk, hf, hab, hr, ⟨h8, htC, hb⟩, hc, hm⟩ := h
  have f : FI (fun b => b = m) M M' := by rw [e]; exact FI.ui rfl
  have g : ∀ i, i ≠ 8 → mI M' m i = mI M m i := fun i hi => by rw [mI_ui m i e, if_neg (fun q => hi q.2)]
  have mB : Be ≠ m := by have := hk.2.2.2.2.2.1; omega
  have c32 := hk.2.2.2.2.2.2.2.2
  refine ⟨ms_step (t' := t') (c' := c) (by rw [e]; exact mOk_UI ok (by rw [hv]; exact ⟨by omega, by omega⟩)) hk hf hab hr hm (f.mono (fun _ q => Or.inl q)) (g 4 (by decide)) (g 9 (by decide)) (by rw [mI_ui m 8 e, if_pos ⟨rfl, rfl⟩]; exact hv) (by omega) (fun i hi => by rw [f.2.2.2.2.2.2 Be mB]; exact hb i (by omega)) (by rw [g 15 (by decide)]; exact hc), fun b h1 h2 => f.2.2.2.2.2.2 b (by omega), f⟩
theorem s_Ma_stop {x y : Int} (hx : i32 x) (hy : i32 y) (h : MS M0 z m U Ab0 Be0 C0 M t c) : Ci G y_Ma_stop d [vr m, vi x, vi y] M (fun r M' => r = 0 ∧ MS M0 z m U Ab0 Be0 C0 M' t c ∧ mtb m M M' ∧ mI M' m 1 = x) := by
  have ok : mOk M := by obtain ⟨_, _, _, ok, -⟩ := h; exact ok
  have k0 : mK M m = 5 := by obtain ⟨_, _, _, -, hk, -⟩ := h; exact hk.1
  refine k_Ma_stop ok hx hy ⟨k0, fun M2 e2 M4 e4 => ?_⟩
  obtain ⟨h2, b2⟩ := ms_fld h hx e2 (by decide) (by decide) (by decide) (by decide)
  obtain ⟨h4, b4⟩ := ms_fld h2 hy e4 (by decide) (by decide) (by decide) (by decide)
  exact ⟨rfl, h4, b2.trans b4, by rw [mI_ui m 1 e4, if_neg (fun t => absurd t.2 (by decide)), mI_ui m 1 e2, if_pos ⟨rfl, rfl⟩]⟩
/-- a value of the pile is written -/
theorem ms_val {j : Nat} {x y : Int} (h : MS M0 z m U Ab0 Be0 C0 M t c) (hj : j < t) (hx : i32 x) (hy : 1 ≤ y ∧ y < 1000000000) (e1 : M1 = mUI M (mR M m 6) j x) (e2 : M2 = mUI M1 (mR M1 m 7) j y) : MS M0 z m U Ab0 Be0 C0 M2 t c ∧ mtb m M M2 := by
  obtain ⟨Ab, Be, C, ok, hk, hf, hab, hr, ⟨h8, htC, hb⟩, hc, hm⟩ := h
  have r6 := hk.2.1.2.2.1
  have r7 := hk.2.1.2.2.2.1
  obtain ⟨sA, sB, sne, sz⟩ := hk.2.2.2.2.2.1
  rw [r6] at e1
  have f1 : FI (fun b => b = Ab) M M1 := by rw [e1]; exact FI.ui rfl
  rw [f1.2.2.1, r7] at e2
  have f2 : FI (fun b => b = Be) M1 M2 := by rw [e2]; exact FI.ui rfl
  have g : mI M2 m = mI M m := by rw [f2.2.2.2.2.2.2 m (by omega), f1.2.2.2.2.2.2 m (by omega)]
  refine ⟨ms_step (t' := t) (c' := c) (by rw [e2]; exact mOk_UI (by rw [e1]; exact mOk_UI ok hx) ⟨by omega, by omega⟩) hk hf hab hr hm ((f1.mono (fun _ q => Or.inr (Or.inr (Or.inr (Or.inl q))))).trans (f2.mono (fun _ q => Or.inr (Or.inr (Or.inr (Or.inr q)))))) (by rw [g]) (by rw [g]) (by rw [g]; exact h8) htC (fun i hi => ?_) (by rw [g]; exact hc), fun b h1 h2 => by rw [f2.2.2.2.2.2.2 b (by omega), f1.2.2.2.2.2.2 b (by omega)]⟩
  rw [mI_ui Be i e2]
  by_cases y0 : i = j
  · rw [if_pos ⟨rfl, y0⟩]; exact hy
  · rw [if_neg (fun q => y0 q.2), f1.2.2.2.2.2.2 Be (fun q => sne q.symm)]; exact hb i hi
/-- only the value above is written -/
theorem ms_abv {j : Nat} {x : Int} (h : MS M0 z m U Ab0 Be0 C0 M t c) (hx : i32 x) (e1 : M1 = mUI M (mR M m 6) j x) : MS M0 z m U Ab0 Be0 C0 M1 t c ∧ mtb m M M1 := by
  obtain ⟨Ab, Be, C, ok, hk, hf, hab, hr, ⟨h8, htC, hb⟩, hc, hm⟩ := h
  have r6 := hk.2.1.2.2.1
  obtain ⟨sA, sB, sne, sz⟩ := hk.2.2.2.2.2.1
  rw [r6] at e1
  have f1 : FI (fun b => b = Ab) M M1 := by rw [e1]; exact FI.ui rfl
  have g : mI M1 m = mI M m := f1.2.2.2.2.2.2 m (by omega)
  exact ⟨ms_step (t' := t) (c' := c) (by rw [e1]; exact mOk_UI ok hx) hk hf hab hr hm (f1.mono (fun _ q => Or.inr (Or.inr (Or.inr (Or.inl q))))) (by rw [g]) (by rw [g]) (by rw [g]; exact h8) htC (fun i hi => by rw [f1.2.2.2.2.2.2 Be (fun q => sne q.symm)]; exact hb i hi) (by rw [g]; exact hc), fun b h1 h2 => f1.2.2.2.2.2.2 b (by omega)⟩
/-- the pile's places and what is on top -/
theorem MS.pile (h : MS M0 z m U Ab0 Be0 C0 M t c) : mOk M ∧ mK M m = 5 ∧ mI M m 8 = t ∧ mK M (mR M m 6) = 30 ∧ mK M (mR M m 7) = 30 ∧ (t : Int) ≤ mN M (mR M m 6) ∧ (t : Int) ≤ mN M (mR M m 7) ∧ mN M (mR M m 6) ≤ 32768 ∧ mN M (mR M m 7) ≤ 32768 ∧ (∀ j, j < t → 1 ≤ mI M (mR M m 7) j ∧ mI M (mR M m 7) j < 1000000000) ∧ (m ≠ mR M m 6 ∧ m ≠ mR M m 7) ∧ mR M m 6 ≠ mR M m 7 := by
  obtain ⟨Ab, Be, C, ok, hk, hf, hab, hr, ⟨h8, htC, hb⟩, hc, hm⟩ := h
  obtain ⟨k0, ⟨r3, r5, r6, r7, -⟩, ⟨kU, k2, kA, kB, -⟩, ⟨n2, nA, nB, -⟩, hbs, ⟨sA, sB, sne, sz⟩, -, ⟨c64, c32⟩⟩ := hk
  rw [r6, r7, nA, nB]
  exact ⟨ok, k0, h8, kA, kB, by omega, by omega, by omega, by omega, hb, ⟨by omega, by omega⟩, sne⟩
theorem s_Ma_commonDivisor {x y : Int} (hx : -9223372036854775807 ≤ x ∧ x ≤ 9223372036854775807) (hy : 1 ≤ y ∧ y ≤ 9223372036854775807) (hO : mOk M) : Cj G y_Ma_commonDivisor d [vl x, vl y] M (fun v M' => M' = M ∧ 1 ≤ v ∧ v ≤ y) := by
  refine k_Ma_commonDivisor hO ⟨by omega, by omega⟩ ⟨by omega, by omega⟩ (fun v2 e2 => ?_)
  have v0 : 0 ≤ v2 ∧ v2 ≤ 9223372036854775807 := by
    have := (cmpz x 0).1
    rw [e2]
    split <;> omega
  clear e2
  suffices HH : ∀ (s i : Nat) (a b : Int), 100 ≤ i + s → i ≤ 100 → (0 ≤ a ∧ a ≤ 9223372036854775807) → (0 ≤ b ∧ b ≤ y) → (i = 0 → b = y) → (0 < i → 1 ≤ a ∧ a ≤ y) → h_Ma_commonDivisor_20 G d a b i M (fun v M' => M' = M ∧ 1 ≤ v ∧ v ≤ y) from HH 100 0 v2 y (by omega) (by omega) v0 ⟨by omega, by omega⟩ (fun _ => rfl) (fun q => absurd q (by omega))
  intro s
  induction s with
  | zero =>
    intro i a b hs hi ha hb h0 h1
    have cb := (cmpz b 0).2.2.2.1
    have ca := (cmpz a 0).2.2.2.1
    refine k_Ma_commonDivisor_20 hO ⟨by omega, by omega⟩ ⟨by omega, by omega⟩ (i32s (by omega) (by omega)) ⟨fun _ v12 e12 => ?_, fun q => absurd (Or.inl (by omega)) q⟩
    have := h1 (by omega)
    rw [if_neg (by rw [ca]; omega)] at e12
    rw [e12]
    exact ⟨rfl, this⟩
  | succ s ih =>
    intro i a b hs hi ha hb h0 h1
    have cb := (cmpz b 0).2.2.2.1
    have ca := (cmpz a 0).2.2.2.1
    refine k_Ma_commonDivisor_20 hO ⟨by omega, by omega⟩ ⟨by omega, by omega⟩ (i32s (by omega) (by omega)) ⟨fun q v12 e12 => ?_, fun q => ?_⟩
    · have hi0 : 0 < i := by
        rcases q with q | q
        · omega
        · rw [cb] at q
          by_cases u : i = 0
          · have := h0 u; omega
          · omega
      have := h1 hi0
      rw [if_neg (by rw [ca]; omega)] at e12
      rw [e12]
      exact ⟨rfl, this⟩
    · have i100 : i < 100 := by
        by_cases u : (100 : Int) ≤ i
        · exact absurd (Or.inl u) q
        · omega
      have b0 : b ≠ 0 := fun u => q (Or.inr (by rw [cb]; exact u))
      have t1 := Int.tmod_nonneg b ha.1
      have t2 := (tmod9 (x := a) (y := b) (by omega)).2
      refine ⟨b0, ih (i + 1) b (Int.tmod a b) (by omega) (by omega) ⟨by omega, by omega⟩ ⟨t1, by omega⟩ (fun u => absurd u (by omega)) (fun _ => ⟨by omega, by omega⟩)⟩
theorem s_Ma_settle {x y : Int} {sg : Int} (hx : -5000000000000000000 ≤ x ∧ x ≤ 5000000000000000000) (hy : 1 ≤ y ∧ y ≤ 5000000000000000000) (hs : i32 sg) (h : MS M0 z m U Ab0 Be0 C0 M (t + 1) c) : Ci G y_Ma_settle (d + 1) [vr m, vl x, vl y, vi sg] M (fun r M' => (r = 0 ∨ r = 1) ∧ MS M0 z m U Ab0 Be0 C0 M' (t + 1) c ∧ mtb m M M' ∧ (r = 0 → mI M' m 1 ≠ 0)) := by
  obtain ⟨ok, k0, h8, kA, kB, tA, tB, bA, bB, hb, ⟨mA, mB⟩, ne⟩ := h.pile
  refine k_Ma_settle ok ⟨by omega, by omega⟩ ⟨by omega, by omega⟩ hs ((s_Ma_commonDivisor ⟨by omega, by omega⟩ ⟨by omega, by omega⟩ ok).mono (fun g M1 q => ?_))
  obtain ⟨e1, g1, g2⟩ := q
  subst e1
  have dx := m_tdivB (x := x) (z := g) (by omega)
  have dy := m_tdivB (x := y) (z := g) (by omega)
  have dy0 : 1 ≤ Int.tdiv y g := by
    rw [Int.tdiv_eq_ediv_of_nonneg (by omega)]
    exact (Int.le_ediv_iff_mul_le (by omega)).mpr (by omega)
  have c1 := (cmpz (Int.tdiv x g) 1000000000).1
  have c2 := (cmpz (Int.tdiv x g) (-1000000000)).2.1
  have c3 := (cmpz (Int.tdiv y g) 1000000000).2.2.1
  refine ⟨⟨by omega, by omega⟩, ok, by omega, by omega, ⟨by omega, by omega⟩, fun _ _ => ⟨by omega, by omega⟩, fun _ => ⟨k0, (s_Ma_stop (i32s (by omega) (by omega)) hs h).mono (fun r M' q => ?_)⟩, fun q => ?_⟩
  · obtain ⟨e, q1, q2, q3⟩ := q
    rw [e]
    exact ⟨i32s (by omega) (by omega), q1.pile.1, Or.inl rfl, Or.inl rfl, q1, q2, fun _ => by rw [q3]; decide⟩
  · have u1 : Int.tdiv x g < 1000000000 ∧ -1000000000 < Int.tdiv x g ∧ Int.tdiv y g < 1000000000 := by
      rw [c1, c2, c3] at q
      clear c1 c2 c3
      omega
    clear q c1 c2 c3
    have e8 : (mI M1 m 8 - 1) = (t : Int) := by omega
    rw [e8, Int.toNat_natCast]
    refine ⟨k0, kA, by omega, ⟨by omega, by omega⟩, fun M23 e23 => ?_⟩
    have f23 : FI (fun b => b = mR M1 m 6) M1 M23 := by rw [e23]; exact FI.ui rfl
    have e8' : (mI M23 m 8 - 1) = (t : Int) := by rw [f23.2.2.2.2.2.2 m mA]; exact e8
    rw [e8', Int.toNat_natCast]
    refine ⟨by rw [f23.1, f23.2.2.1]; exact kB, by rw [f23.2.1, f23.2.2.1]; omega, ⟨by omega, by omega⟩, fun M28 e28 => ?_⟩
    have hv := ms_val h (j := t) (by omega) ⟨by omega, by omega⟩ ⟨dy0, u1.2.2⟩ e23 e28
    exact ⟨Or.inr rfl, hv.1, hv.2, fun t => absurd t (by decide)⟩
end MAB
