/-! The reference: finish. -/
section FI3
variable {G : mG} {F : Prop} {d a g R W T V n : Nat} {M : mM}
theorem s_MM_finish {nm : Int → Prop} {k f e : Nat} {c : Nat → Int} {t : Int} (h : Ev F M a g R W T) (hn : n < T) (hk : 1 ≤ k) (ha : ari (so M g n) k) (hne : so M g n ≠ 29 ∧ so M g n ≠ 30 ∧ so M g n ≠ 32) (hf : fp M g n = ((n + 1 : Nat) : Int)) (ht : Tn nm M g f k (n + 1) e) (he : e ≤ T) (hty : tyr (so M g n) k c t) (hv : ∀ j, j < k → vok (c j) (mL M (a + 97) (V + j)) (mL M (a + 98) (V + j))) (hV : mI M a 23 = (V + k : Nat)) (hb : V + k ≤ 16400) : Cv G y_MM_finish (d + 3) [vr a, vr g, vi n] M (fun M' => mOk M' ∧ rkQ M a V t M') := by
  obtain ⟨hO, w, hg, hd, hB, -, -⟩ := id h
  have gp := w.gp hg
  have r0 : mR M g 0 = g + 1 := gp.2.1.1
  have r1 : mR M g 1 = g + 3 := gp.2.1.2.1
  have r4 : mR M g 4 = g + 9 := gp.2.1.2.2.2.2.1
  have i1 := tL_in (a := a) (q := g + 1) hg (tLk1 g)
  have i3 := tL_in (a := a) (q := g + 3) hg (tLk3 g)
  have i9 := tL_in (a := a) (q := g + 9) hg (tLk9 g)
  have l1 := hd (g + 1) (by first | exact tLk1 g | omega)
  have l3 := hd (g + 3) (by first | exact tLk3 g | omega)
  have l9 := hd (g + 9) (by first | exact tLk9 g | omega)
  have rd : ∀ {p j : Nat} {Q : Int → mM → Prop}, p ∈ nums a → (j : Int) < ln M p → (∀ z, z = nt M p j → i32 z → Q z M) → Ci G y_MN_at (d + 2) [vr p, vi j] M Q := fun hp hk hQ => by
    refine (s_MN_at hO (w.nu hp) hk).mono (fun z M1 e1 => ?_)
    obtain ⟨e1, hz⟩ := e1
    subst e1
    exact hQ z hz (by rw [hz]; exact (hO _ _).1)
  refine k_MM_finish hO (i32s (by omega) (by omega)) ?_
  rw [r0]
  refine ⟨gp.1, (w.nu i1).1, rd i1 (by omega) (fun s hs is => ⟨is, hO, gp.1, ?_⟩)⟩
  have hs' : s = so M g n := hs
  rw [← hs'] at ha hne hty
  rw [r1]
  refine ⟨(w.nu i3).1, rd i3 (by omega) (fun p hp ip => ⟨ip, hO, gp.1, ?_⟩)⟩
  rw [r4]
  refine ⟨(w.nu i9).1, rd i9 (by omega) (fun x hx ix => ⟨ix, hO, ?_⟩)⟩
  rw [show x = ((n + 1 : Nat) : Int) from hx.trans hf]
  have hge := ht.ge
  refine s_fin32 is ip h k f (n + 1) e 0 hk ht he (by omega) ?_
  refine k_MM_finish_32 hO is ip (i32s (by omega) (by omega)) (i32s (by omega) (by omega)) ⟨fun _ => ?_, fun q => absurd (by decide) q⟩
  rw [hV, show ((V + k : Nat) : Int) - ((0 + k : Nat) : Int) = (V : Int) by omega]
  refine ⟨w.1.1, i32s (by omega) (by omega), fun M2 e2 => ?_⟩
  obtain ⟨m2, f2⟩ := mv_fld (v := (V : Int)) (i32s (by omega) (by omega)) hO w e2
  have o2 := m2.1
  have w2 := m2.2.1
  have z := w.2.2.2
  have cl : ∀ x, x < mZ M → x ≠ a → mL M2 x = mL M x := fun x hx hne => (m2.2.2.2.1.2.2.2.1 x hx (fun y => y) (fun p y => y.elim) hne).2
  have r21 : mR M2 a 21 = a + 97 := w2.1.2.2.2.2.1.2.2.2.2.2.2.1
  have r22 : mR M2 a 22 = a + 98 := w2.1.2.2.2.2.1.2.2.2.2.2.2.2.1
  have n97 : mK M2 (a + 97) = 33 ∧ mN M2 (a + 97) = 16400 := w2.1.2.2.2.2.2.2.2.1.1
  have n98 : mK M2 (a + 98) = 33 ∧ mN M2 (a + 98) = 16400 := w2.1.2.2.2.2.2.2.2.1.2.1
  have hV2 : mI M2 a 23 = (V : Int) := by rw [f2, if_pos rfl]
  have fin : ∀ M', mOk M' ∧ rkQ M2 a V t M' → mOk M' ∧ h_MM_finish_400 G (d + 2) M' (fun M' => mOk M' ∧ rkQ M a V t M') := fun M' y => ⟨y.1, k_MM_finish_400 y.1 ⟨y.1, y.2.pre m2 (fun i hi => by rw [f2, if_neg hi]) w⟩⟩
  have tr : ∀ {b : Int}, i32 b → t = 1 → Cv G y_MM_pushTruth (d + 2) [vr a, vi b] M2 (fun M' => mOk M' ∧ h_MM_finish_400 G (d + 2) M' (fun M' => mOk M' ∧ rkQ M a V t M')) := fun {b} ib t1 => (s_MM_pushTruth (d := d + 1) ib o2 w2 hV2 (by omega)).mono (fun M' y => fin M' ⟨y.1, y.2.rk (Or.inr ⟨t1, by by_cases q : b = 0; exact Or.inl (if_pos q); exact Or.inr (if_neg q), rfl⟩)⟩)
  have v0 := hv 0 (by omega)
  rw [show V + 0 = V by omega] at v0
  unfold tyr at hty
  rw [r21, r22, cl (a + 97) (by omega) (by omega), cl (a + 98) (by omega) (by omega), n97.2, n98.2, Int.toNat_natCast, show ((V : Int) + 1).toNat = V + 1 by omega]
  refine ⟨fun q1 => ⟨n97.1, by omega, fun b hb2 => tr (by split at hb2 <;> exact ⟨by omega, by omega⟩) ?_⟩, fun q1 => ?_⟩
  · rw [if_pos (by omega)] at hty; exact hty.2
  rw [if_neg (by omega)] at hty
  refine ⟨fun q2 => ?_, fun q2 => ⟨fun q3 b hb2 => ?_, fun q3 => k_MM_isComparison o2 is (fun v7 h7 => ⟨i32s (by split at h7 <;> omega) (by split at h7 <;> omega), o2, fun y => ?_, fun y => ?_⟩)⟩⟩
  · rw [if_neg (by omega), if_neg (by omega), if_neg (show ¬ (19 ≤ s ∧ s ≤ 22) by omega)] at hty
    have c0 := hty.1 0 (by omega)
    rw [c0] at v0
    unfold vok at v0
    refine ⟨n97.1, by omega, n98.1, by omega, (s_MM_push ⟨by omega, by omega⟩ ⟨by omega, by omega⟩ o2 w2 hV2 (by omega)).mono (fun M' y => fin M' ⟨y.1, y.2.rk (Or.inl ⟨hty.2, by omega, by omega, by omega, by omega⟩)⟩)⟩
  · rw [if_neg (by omega), if_neg (by omega), if_neg (show ¬ (19 ≤ s ∧ s ≤ 22) by omega)] at hty
    have t0 := hty.2
    subst t0
    rw [show (0 + k : Nat) = k by omega]
    refine (s_MM_best (d := d + 1) (by split at hb2 <;> exact ⟨by omega, by omega⟩) hk o2 w2 hV2 (by omega) hb (fun j j1 j2 => ?_)).mono fin
    have := hv (j - V) (by omega)
    rw [show V + (j - V) = j by omega, hty.1 (j - V) (by omega)] at this
    rw [cl (a + 97) (by omega) (by omega), cl (a + 98) (by omega) (by omega)]
    exact this
  · have s5 : 24 ≤ s ∧ s ≤ 28 ∧ k = 2 := by unfold ari at ha; split at h7 <;> omega
    rw [if_neg (by omega), if_neg (by omega), if_neg (show ¬ (19 ≤ s ∧ s ≤ 22) by omega)] at hty
    have v1 := hv 1 (by omega)
    rw [hty.1 1 (by omega)] at v1
    rw [hty.1 0 (by omega)] at v0
    have t0 := hty.2
    subst t0
    rw [r21, r22, cl (a + 97) (by omega) (by omega), cl (a + 98) (by omega) (by omega), n97.2, n98.2]
    exact ⟨w2.1.1, n97.1, by omega, n98.1, by omega, by omega, by omega, (s_MM_reckon (d := d) ⟨s5.1, s5.2.1⟩ v0 v1 ip o2 w2 hV2 (by omega)).mono fin⟩
  · have s5 : 18 ≤ s ∧ s ≤ 23 ∧ k = 2 := by unfold ari at ha; split at h7 <;> omega
    have v1 := hv 1 (by omega)
    have c01 : c 0 = c 1 ∧ t = 1 := by
      by_cases q : s = 18 ∨ s = 23
      · rw [if_pos q] at hty; exact hty
      · rw [if_neg q, if_neg (by omega), if_pos (show 19 ≤ s ∧ s ≤ 22 by omega)] at hty
        exact ⟨(hty.1 0 (by omega)).trans (hty.1 1 (by omega)).symm, hty.2⟩
    rw [c01.1] at v0
    rw [r21, r22, cl (a + 97) (by omega) (by omega), cl (a + 98) (by omega) (by omega), n97.2, n98.2]
    refine ⟨w2.1.1, n98.1, by omega, ⟨fun _ => ⟨n97.1, by omega, by omega⟩, fun _ => ⟨n97.1, by omega, by omega, by omega, by omega⟩⟩, fun u hu => ?_⟩
    have iu : i64 u := by
      by_cases q : cmpL (mL M (a + 98) V) 0 = 0
      · rw [if_pos q] at hu
        unfold vok at v0 v1
        exact ⟨by omega, by omega⟩
      · rw [if_neg q] at hu
        have q' : mL M (a + 98) V ≠ 0 := fun y => q ((cmpz _ 0).2.2.2.1.2 y)
        unfold vok at v0 v1
        have m1 := mul9 (x := mL M (a + 97) V) (y := mL M (a + 98) (V + 1)) ⟨by omega, by omega⟩ ⟨by omega, by omega⟩
        have m3 := mul9 (x := mL M (a + 97) (V + 1)) (y := mL M (a + 98) V) ⟨by omega, by omega⟩ ⟨by omega, by omega⟩
        exact ⟨by omega, by omega⟩
    exact ⟨⟨fun _ => iu, fun _ => ⟨fun _ => iu, fun _ => ⟨fun _ => iu, fun _ => ⟨fun _ => iu, fun _ => ⟨fun _ => iu, fun _ => iu⟩⟩⟩⟩⟩, fun b hb2 => tr (by rw [hb2]; split <;> exact ⟨by decide, by decide⟩) c01.2⟩
end FI3
