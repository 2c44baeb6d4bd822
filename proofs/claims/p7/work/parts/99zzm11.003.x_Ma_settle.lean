section
section
variable {G : mG} {d z m U Ab Be C Ab0 Be0 C0 t s c p O P K : Nat} {M0 M M' M1 M2 : mM} {S R : Nat → Prop}
theorem x_Ma_stop {x y : Int} (hx : i32 x) (hy : i32 y) (h : MS M0 z m U Ab0 Be0 C0 M t c) : Ci G y_Ma_stop d [vr m, vi x, vi y] M (fun r M' => r = 0 ∧ MS M0 z m U Ab0 Be0 C0 M' t c ∧ mtq m M M' ∧ mI M' m 1 = x ∧ mI M' m 2 = y) := by
  have ok : mOk M := by obtain ⟨_, _, _, ok, -⟩ := h; exact ok
  have k0 : mK M m = 5 := by obtain ⟨_, _, _, -, hk, -⟩ := h; exact hk.1
  refine k_Ma_stop ok hx hy ⟨k0, fun M2 e2 M4 e4 => ?_⟩
  obtain ⟨h2, -⟩ := ms_fld h hx e2 (by decide) (by decide) (by decide) (by decide)
  obtain ⟨h4, -⟩ := ms_fld h2 hy e4 (by decide) (by decide) (by decide) (by decide)
  have b2 : mtq m M M2 := mtq.fi (by rw [e2]; exact FI.ui rfl)
  have b4 : mtq m M2 M4 := mtq.fi (by rw [e4]; exact FI.ui rfl)
  exact ⟨rfl, h4, b2.trans b4, by rw [mI_ui m 1 e4, if_neg (fun t => absurd t.2 (by decide)), mI_ui m 1 e2, if_pos ⟨rfl, rfl⟩], by rw [mI_ui m 2 e4, if_pos ⟨rfl, rfl⟩]⟩
/-- a value of the pile is written: the others stay -/
theorem pl_val {j : Nat} {x y : Int} (hne : m ≠ mR M m 6 ∧ m ≠ mR M m 7) (ne : mR M m 6 ≠ mR M m 7) (e1 : M1 = mUI M (mR M m 6) j x) (e2 : M2 = mUI M1 (mR M1 m 7) j y) : plq M M2 m j ∧ ptq M2 m j x y := by
  have r1 : mR M1 = mR M := by rw [e1]; rfl
  have r2 : mR M2 = mR M := by rw [e2]; exact r1
  rw [r1] at e2
  unfold plq ptq
  rw [r2]
  refine ⟨fun i hi => ⟨?_, ?_⟩, ?_, ?_⟩
  · rw [mI_ui _ i e2, if_neg (fun q => ne q.1), mI_ui _ i e1, if_neg (fun q => by have := q.2; omega)]
  · rw [mI_ui _ i e2, if_neg (fun q => by have := q.2; omega), mI_ui _ i e1, if_neg (fun q => ne q.1.symm)]
  · rw [mI_ui _ j e2, if_neg (fun q => ne q.1), mI_ui _ j e1, if_pos ⟨rfl, rfl⟩]
  · rw [mI_ui _ j e2, if_pos ⟨rfl, rfl⟩]
/-- what an order leaves behind: v its result, t values below it -/
def cpx (M0 : mM) (z m U Ab0 Be0 C0 : Nat) (M : mM) (t c : Nat) (v : vrs) (r : Int) (M' : mM) : Prop := ((r = 0 ∧ v.1 ≠ 0 ∧ mI M' m 1 = v.1 ∧ mI M' m 2 = v.2.1 ∧ ∃ t2, MS M0 z m U Ab0 Be0 C0 M' t2 c) ∨ (r = 1 ∧ v.1 = 0 ∧ MS M0 z m U Ab0 Be0 C0 M' (t + 1) c ∧ plq M M' m t ∧ ptq M' m t v.2.1 v.2.2)) ∧ mtq m M M'
theorem x_Ma_settle {x y : Int} {sg : Int} (hx : -5000000000000000000 ≤ x ∧ x ≤ 5000000000000000000) (hy : 1 ≤ y ∧ y ≤ 5000000000000000000) (hs : i32 sg) (h : MS M0 z m U Ab0 Be0 C0 M (t + 1) c) : Ci G y_Ma_settle (d + 1) [vr m, vl x, vl y, vi sg] M (cpx M0 z m U Ab0 Be0 C0 M t c (vst x y sg)) := by
  obtain ⟨ok, k0, h8, kA, kB, tA, tB, bA, bB, hb, ⟨mA, mB⟩, ne⟩ := h.pile
  refine k_Ma_settle ok ⟨by omega, by omega⟩ ⟨by omega, by omega⟩ hs ((x_Ma_commonDivisor ⟨by omega, by omega⟩ ⟨by omega, by omega⟩ ok).mono (fun g M1 q => ?_))
  obtain ⟨e1, ⟨g1, g2⟩, eg⟩ := q
  subst e1
  have gx : g ∣ x := by rw [eg]; exact Int.gcd_dvd_left x y
  have gy : g ∣ y := by rw [eg]; exact Int.gcd_dvd_right x y
  have ev : vst x y sg = if 1000000000 ≤ x / g ∨ x / g ≤ -1000000000 ∨ 1000000000 ≤ y / g then (6, sg, 0) else (0, x / g, y / g) := by rw [eg]; rfl
  rw [ev]
  clear ev
  have tx := Int.tdiv_eq_ediv_of_dvd gx
  have ty := Int.tdiv_eq_ediv_of_dvd gy
  have dx := m_tdivB (x := x) (z := g) (by omega)
  have dy := m_tdivB (x := y) (z := g) (by omega)
  have dy0 : 1 ≤ Int.tdiv y g := by
    rw [Int.tdiv_eq_ediv_of_nonneg (by omega)]
    exact (Int.le_ediv_iff_mul_le (by omega)).mpr (by omega)
  rw [← tx, ← ty]
  clear eg gx gy tx ty
  have c1 := (cmpz (Int.tdiv x g) 1000000000).1
  have c2 := (cmpz (Int.tdiv x g) (-1000000000)).2.1
  have c3 := (cmpz (Int.tdiv y g) 1000000000).2.2.1
  refine ⟨⟨by omega, by omega⟩, ok, by omega, by omega, ⟨by omega, by omega⟩, fun _ _ => ⟨by omega, by omega⟩, fun qq => ⟨k0, (x_Ma_stop (i32s (by omega) (by omega)) hs h).mono (fun r M' q => ?_)⟩, fun q => ?_⟩
  · obtain ⟨e, q1, q2, q3, q4⟩ := q
    rw [e, if_pos (by rw [c1, c2, c3] at qq; omega)]
    exact ⟨i32s (by omega) (by omega), q1.pile.1, Or.inl rfl, Or.inl ⟨rfl, by simp, q3, q4, _, q1⟩, q2⟩
  · have u1 : Int.tdiv x g < 1000000000 ∧ -1000000000 < Int.tdiv x g ∧ Int.tdiv y g < 1000000000 := by
      rw [c1, c2, c3] at q
      clear c1 c2 c3
      omega
    clear q c1 c2 c3
    rw [if_neg (by omega)]
    have e8 : (mI M1 m 8 - 1) = (t : Int) := by omega
    rw [e8, Int.toNat_natCast]
    refine ⟨k0, kA, by omega, ⟨by omega, by omega⟩, fun M23 e23 => ?_⟩
    have f23 : FI (fun b => b = mR M1 m 6) M1 M23 := by rw [e23]; exact FI.ui rfl
    have e8' : (mI M23 m 8 - 1) = (t : Int) := by rw [f23.2.2.2.2.2.2 m mA]; exact e8
    rw [e8', Int.toNat_natCast]
    refine ⟨by rw [f23.1, f23.2.2.1]; exact kB, by rw [f23.2.1, f23.2.2.1]; omega, ⟨by omega, by omega⟩, fun M28 e28 => ?_⟩
    have hv := ms_val h (j := t) (by omega) ⟨by omega, by omega⟩ ⟨dy0, u1.2.2⟩ e23 e28
    have pv := pl_val ⟨mA, mB⟩ ne e23 e28
    exact ⟨Or.inr ⟨rfl, rfl, hv.1, pv.1, pv.2⟩, mtq.val h e23 e28⟩
end
end
