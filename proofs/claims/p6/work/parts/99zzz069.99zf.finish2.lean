section
/-! The reference: finish. -/
section FI3
variable {G : mG} {F : Prop} {d a g R W T V n : Nat} {M : mM}
theorem s_MM_finish {nm : Int → Prop} {k f e : Nat} {c : Nat → Int} {t : Int} (h : Ev F M a g R W T) (hn : n < T) (hk : 1 ≤ k) (ha : ari (so M g n) k) (hne : so M g n ≠ 29 ∧ so M g n ≠ 30 ∧ so M g n ≠ 32) (hf : fp M g n = ((n + 1 : Nat) : Int)) (ht : Tn nm M g f k (n + 1) e) (he : e ≤ T) (hty : tyr (so M g n) k c t) (hv : ∀ j, j < k → vok (c j) (mL M (a + 97) (V + j)) (mL M (a + 98) (V + j))) (hV : mI M a 23 = (V + k : Nat)) (hb : V + k ≤ 16400) : Cv G y_MM_finish (d + 3) [vr a, vr g, vi n] M (fun M' => mOk M' ∧ rkQ M a V t M') := by
  obtain ⟨hO, w, hg, hd, hB, -, -⟩ := id h
  have gp := w.gp hg
  have r0 : mR M g 0 = g + 1 := gp.2.1.1
  have r1 : mR M g 1 = g + 3 := gp.2.1.2.1
  have r4 : mR M g 4 = g + 9 := gp.2.1.2.2.2.2.1
  have i1 := tL_in (a := a) (q := g + 1) hg (by omega)
  have i3 := tL_in (a := a) (q := g + 3) hg (by omega)
  have i9 := tL_in (a := a) (q := g + 9) hg (by omega)
  have l1 := hd (g + 1) (by omega)
  have l3 := hd (g + 3) (by omega)
  have l9 := hd (g + 9) (by omega)
  have rd : ∀ {p j : Nat} {Q : Int → mM → Prop}, p ∈ nums a → (j : Int) < ln M p → (∀ z, z = nt M p j → i32 z → Q z M) → Ci G y_MN_at (d + 2) [vr p, vi j] M Q := fun hp hk hQ => by
    refine (s_MN_at hO (w.nu hp) hk).mono (fun z M1 e1 => ?_)
    obtain ⟨e1, hz⟩ := e1
    subst e1
    exact hQ z hz (by rw [hz]; exact (hO _ _).1)
  refine k_MM_finish hO (i32s (by omega) (by omega)) ?_
  rw [r0]
  refine ⟨gp.1, (w.nu i1).1, rd i1 (by omega) (fun s hs is => ⟨is, hO, gp.1, ?_⟩)⟩
  have hs' : s = so M g n := hs
  rw [← hs'] at ha hne hty
  rw [r1]
  refine ⟨(w.nu i3).1, rd i3 (by omega) (fun p hp ip => ⟨ip, hO, gp.1, ?_⟩)⟩
  rw [r4]
  refine ⟨(w.nu i9).1, rd i9 (by omega) (fun x hx ix => ⟨ix, hO, ?_⟩)⟩
  rw [show x = ((n + 1 : Nat) : Int) from hx.trans hf]
  have hge := ht.ge
  refine s_fin32 is ip h k f (n + 1) e 0 hk ht he (by omega) ?_
  refine k_MM_finish_32 hO is ip (i32s (by omega) (by omega)) (i32s (by omega) (by omega)) ⟨fun _ => ?_, fun q => absurd (by decide) q⟩
  rw [hV, show ((V + k : Nat) : Int) - ((0 + k : Nat) : Int) = (V : Int) by omega]
  refine ⟨w.1.1, i32s (by omega) (by omega), fun M2 e2 => ?_⟩
  obtain ⟨m2, f2⟩ := mv_fld (v := (V : Int)) (i32s (by omega) (by omega)) hO w e2
  have o2 := m2.1
  have w2 := m2.2.1
  have z := w.2.2.2
  have cl : ∀ x, x < mZ M → x ≠ a → mL M2 x = mL M x := fun x hx hne => (m2.2.2.2.1.2.2.2.1 x hx (fun y => y) (fun p y => y.elim) hne).2
  have r21 : mR M2 a 21 = a + 97 := w2.1.2.2.2.2.1.2.2.2.2.2.2.1
  have r22 : mR M2 a 22 = a + 98 := w2.1.2.2.2.2.1.2.2.2.2.2.2.2.1
  have n97 : mK M2 (a + 97) = 33 ∧ mN M2 (a + 97) = 16400 := w2.1.2.2.2.2.2.2.2.1.1
  have n98 : mK M2 (a + 98) = 33 ∧ mN M2 (a + 98) = 16400 := w2.1.2.2.2.2.2.2.2.1.2.1
  have hV2 : mI M2 a 23 = (V : Int) := by rw [f2, if_pos rfl]
  have fin : ∀ M', mOk M' ∧ rkQ M2 a V t M' → mOk M' ∧ h_MM_finish_400 G (d + 2) M' (fun M' => mOk M' ∧ rkQ M a V t M') := fun M' y => ⟨y.1, k_MM_finish_400 y.1 ⟨y.1, y.2.pre m2 (fun i hi => by rw [f2, if_neg hi]) w⟩⟩
  have tr : ∀ {b : Int}, i32 b → t = 1 → Cv G y_MM_pushTruth (d + 2) [vr a, vi b] M2 (fun M' => mOk M' ∧ h_MM_finish_400 G (d + 2) M' (fun M' => mOk M' ∧ rkQ M a V t M')) := fun {b} ib t1 => (s_MM_pushTruth (d := d + 1) ib o2 w2 hV2 (by omega)).mono (fun M' y => fin M' ⟨y.1, y.2.rk (Or.inr ⟨t1, by by_cases q : b = 0; exact Or.inl (if_pos q); exact Or.inr (if_neg q), rfl⟩)⟩)
  have v0 := hv 0 (by omega)
  rw [show V + 0 = V by omega] at v0
  unfold tyr at hty
  rw [r21, r22, cl (a + 97) (by omega) (by omega), cl (a + 98) (by omega) (by omega), n97.2, n98.2, Int.toNat_natCast, show ((V : Int) + 1).toNat = V + 1 by omega]
  refine ⟨fun q1 => ⟨n97.1, by omega, fun b hb2 => tr (by split at hb2 <;> exact ⟨by omega, by omega⟩) ?_⟩, fun q1 => ?_⟩
  · rw [if_pos (by omega)] at hty; exact hty.2
  rw [if_neg (by omega)] at hty
  refine ⟨fun q2 => ?_, fun q2 => ⟨fun q3 b hb2 => ?_, fun q3 => k_MM_isComparison o2 is (fun v7 h7 => ⟨i32s (by split at h7 <;> omega) (by split at h7 <;> omega), o2, fun y => ?_, fun y => ?_⟩)⟩⟩
  · rw [if_neg (by omega), if_neg (by omega), if_neg (show ¬ (19 ≤ s ∧ s ≤ 22) by omega)] at hty
    have c0 := hty.1 0 (by omega)
    rw [c0] at v0
    unfold vok at v0
    refine ⟨n97.1, by omega, n98.1, by omega, (s_MM_push ⟨by omega, by omega⟩ ⟨by omega, by omega⟩ o2 w2 hV2 (by omega)).mono (fun M' y => fin M' ⟨y.1, y.2.rk (Or.inl ⟨hty.2, by omega, by omega, by omega, by omega⟩)⟩)⟩
  · rw [if_neg (by omega), if_neg (by omega), if_neg (show ¬ (19 ≤ s ∧ s ≤ 22) by omega)] at hty
    have t0 := hty.2
    subst t0
    rw [show (0 + k : Nat) = k by omega]
    refine (s_MM_best (d := d + 1) (by split at hb2 <;> exact ⟨by omega, by omega⟩) hk o2 w2 hV2 (by omega) hb (fun j j1 j2 => ?_)).mono fin
    have := hv (j - V) (by omega)
    rw [show V + (j - V) = j by omega, hty.1 (j - V) (by omega)] at this
    rw [cl (a + 97) (by omega) (by omega), cl (a + 98) (by omega) (by omega)]
    exact this
  · have s5 : 24 ≤ s ∧ s ≤ 28 ∧ k = 2 := by unfold ari at ha; split at h7 <;> omega
    rw [if_neg (by omega), if_neg (by omega), if_neg (show ¬ (19 ≤ s ∧ s ≤ 22) by omega)] at hty
    have v1 := hv 1 (by omega)
    rw [hty.1 1 (by omega)] at v1
    rw [hty.1 0 (by omega)] at v0
    have t0 := hty.2
    subst t0
    rw [r21, r22, cl (a + 97) (by omega) (by omega), cl (a + 98) (by omega) (by omega), n97.2, n98.2]
    exact ⟨w2.1.1, n97.1, by omega, n98.1, by omega, by omega, by omega, (s_MM_reckon (d := d) ⟨s5.1, s5.2.1⟩ v0 v1 ip o2 w2 hV2 (by omega)).mono fin⟩
  · have s5 : 18 ≤ s ∧ s ≤ 23 ∧ k = 2 := by unfold ari at ha; split at h7 <;> omega
    have v1 := hv 1 (by omega)
    have c01 : c 0 = c 1 ∧ t = 1 := by
      by_cases q : s = 18 ∨ s = 23
      · rw [if_pos q] at hty; exact hty
      · rw [if_neg q, if_neg (by omega), if_pos (show 19 ≤ s ∧ s ≤ 22 by omega)] at hty
        exact ⟨(hty.1 0 (by omega)).trans (hty.1 1 (by omega)).symm, hty.2⟩
    rw [c01.1] at v0
    rw [r21, r22, cl (a + 97) (by omega) (by omega), cl (a + 98) (by omega) (by omega), n97.2, n98.2]
    refine ⟨w2.1.1, n98.1, by omega, ⟨fun _ => ⟨n97.1, by omega, by omega⟩, fun _ => ⟨n97.1, by omega, by omega, by omega, by omega⟩⟩, fun u hu => ?_⟩
    have iu : i64 u := by
      by_cases q : cmpL (mL M (a + 98) V) 0 = 0
      · rw [if_pos q] at hu
        unfold vok at v0 v1
        exact ⟨by omega, by omega⟩
      · rw [if_neg q] at hu
        have q' : mL M (a + 98) V ≠ 0 := fun y => q ((cmpz _ 0).2.2.2.1.2 y)
        unfold vok at v0 v1
        have m1 := mul9 (x := mL M (a + 97) V) (y := mL M (a + 98) (V + 1)) ⟨by omega, by omega⟩ ⟨by omega, by omega⟩
        have m3 := mul9 (x := mL M (a + 97) (V + 1)) (y := mL M (a + 98) V) ⟨by omega, by omega⟩ ⟨by omega, by omega⟩
        exact ⟨by omega, by omega⟩
    exact ⟨⟨fun _ => iu, fun _ => ⟨fun _ => iu, fun _ => ⟨fun _ => iu, fun _ => ⟨fun _ => iu, fun _ => ⟨fun _ => iu, fun _ => iu⟩⟩⟩⟩⟩, fun b hb2 => tr (by rw [hb2]; split <;> exact ⟨by decide, by decide⟩) c01.2⟩
end FI3
end
section
/-! The reference: a name is known. -/
section KN
variable {G : mG} {d a K : Nat} {M : mM}
abbrev knP (a : Nat) : Nat → Prop := fun x => x = a + 85 ∨ x = a + 87 ∨ x = a + 89
theorem knP_in {q : Nat} (h : knP a q) : q ∈ nums a := by
  rcases h with h | h | h
  · rw [h]; exact n85
  · rw [h]; exact n87
  · rw [h]; exact n89
theorem s_MM_know {u v x : Int} (hu : i32 u) (hv : i32 v) (hx : i32 x) (hO : mOk M) (h : Wd M a) (l1 : ln M (a + 85) = (K : Int)) (l2 : ln M (a + 87) = (K : Int)) (l3 : ln M (a + 89) = (K : Int)) (hK : K ≤ 1000) : Cv G y_MM_know (d + 1) [vr a, vi u, vi v, vi x] M (fun M' => mOk M' ∧ Mv (knP a) (fun _ => False) M a M' ∧ (ln M' (a + 85) = (K + 1 : Nat) ∧ ln M' (a + 87) = (K + 1 : Nat) ∧ ln M' (a + 89) = (K + 1 : Nat)) ∧ (∀ j, j < K → nt M' (a + 85) j = nt M (a + 85) j ∧ nt M' (a + 87) j = nt M (a + 87) j ∧ nt M' (a + 89) j = nt M (a + 89) j) ∧ nt M' (a + 85) K = u ∧ nt M' (a + 87) K = v ∧ nt M' (a + 89) K = x) := by
  have r13 : ∀ {M3 : mM}, Wd M3 a → mR M3 a 13 = a + 85 := fun w => w.1.2.2.2.2.1.1
  have r14 : ∀ {M3 : mM}, Wd M3 a → mR M3 a 14 = a + 87 := fun w => w.1.2.2.2.2.1.2.1
  have r15 : ∀ {M3 : mM}, Wd M3 a → mR M3 a 15 = a + 89 := fun w => w.1.2.2.2.2.1.2.2.1
  have lt : ∀ {M5 : mM}, Wd M5 a → ∀ q, knP a q → q < mZ M5 := fun w q hq => w.lt (knP_in hq)
  refine k_MM_know hO hu hv hx ?_
  rw [r13 h]
  refine ⟨h.1.1, (h.nu n85).1, (s_MN_add hu hO (h.nu n85) (by omega)).mono (fun M1 t => ?_)⟩
  have m1 := mv_add h n85 t
  have w1 := m1.2.1
  obtain ⟨-, -, -, a1, a2, a3, -⟩ := t
  rw [l1] at a1 a2 a3
  rw [Int.toNat_natCast] at a3
  have s17 := m1.lst (n87 (a := a)) (by omega)
  have s19 := m1.lst (n89 (a := a)) (by omega)
  rw [r14 w1]
  refine ⟨m1.1, w1.1.1, (w1.nu n87).1, (s_MN_add hv m1.1 (w1.nu n87) (by rw [s17.1]; omega)).mono (fun M2 t => ?_)⟩
  have m2 := mv_add w1 n87 t
  have w2 := m2.2.1
  obtain ⟨-, -, -, b1, b2, b3, -⟩ := t
  rw [s17.1, l2] at b1 b2 b3
  rw [Int.toNat_natCast] at b3
  have s25 := m2.lst (n85 (a := a)) (by omega)
  have s29 := m2.lst (n89 (a := a)) (by omega)
  rw [r15 w2]
  refine ⟨m2.1, w2.1.1, (w2.nu n89).1, (s_MN_add hx m2.1 (w2.nu n89) (by rw [s29.1, s19.1]; omega)).mono (fun M3 t => ?_)⟩
  have m3 := mv_add w2 n89 t
  obtain ⟨-, -, -, c1, c2, c3, -⟩ := t
  rw [s29.1, s19.1, l3] at c1 c2 c3
  rw [Int.toNat_natCast] at c3
  have s35 := m3.lst (n85 (a := a)) (by omega)
  have s37 := m3.lst (n87 (a := a)) (by omega)
  refine ⟨m3.1, m3.1, ((m1.mono (fun q hq => Or.inl hq) (fun _ z => z) (lt h)).trans (m2.mono (fun q hq => Or.inr (Or.inl hq)) (fun _ z => z) (lt w1))).trans (m3.mono (fun q hq => Or.inr (Or.inr hq)) (fun _ z => z) (lt w2)), ⟨by rw [s35.1, s25.1, a1]; omega, by rw [s37.1, b1]; omega, by rw [c1]; omega⟩, fun j hj => ⟨by rw [s35.2.1, s25.2.1, a2 j (by omega)], by rw [s37.2.1, b2 j (by omega), s17.2.1], by rw [c2 j (by omega), s29.2.1, s19.2.1]⟩, by rw [s35.2.1, s25.2.1]; exact a3, by rw [s37.2.1]; exact b3, c3⟩
end KN
end
section
/-! The reference: a node is begun. -/
section BG
variable {G : mG} {F : Prop} {d a g R W T V X n : Nat} {M : mM}
theorem Ev.rd {p j : Nat} {Q : Int → mM → Prop} (h : Ev F M a g R W T) (hp : p ∈ nums a) (hk : (j : Int) < ln M p) (hQ : ∀ z, z = nt M p j → i32 z → Q z M) : Ci G y_MN_at d [vr p, vi j] M Q := by
  refine (s_MN_at h.1 (h.2.1.nu hp) hk).mono (fun z M1 e1 => ?_)
  obtain ⟨e1, hz⟩ := e1
  subst e1
  exact hQ z hz (by rw [hz]; exact (h.1 _ _).1)
theorem s_bg {Q : mM → Prop} (h : Ev F M a g R W T) (hn : n < T)
    (h1 : so M g n = 1 → Cv G y_MM_name (d + 2) [vr a, vr g, vi (va M g n)] M (fun M' => mOk M' ∧ Q M'))
    (h2 : so M g n = 2 → Cv G y_MM_push (d + 2) [vr a, vl (va M g n), vl 1] M (fun M' => mOk M' ∧ Q M'))
    (h3 : so M g n = 12 ∨ so M g n = 13 → Cv G y_MM_pushTruth (d + 2) [vr a, vi (if so M g n = 12 then 1 else 0)] M (fun M' => mOk M' ∧ Q M'))
    (h4 : so M g n = 29 ∨ so M g n = 30 ∨ so M g n = 32 → Cv G y_MM_todo (d + 2) [vr a, vi 2, vi n] M (fun M1 => mOk M1 ∧ (mK M1 a = 14 ∧ Cv G y_MM_todo (d + 2) [vr a, vi 0, vi (fp M g n)] M1 (fun M2 => mOk M2 ∧ Q M2))))
    (h5 : ¬ (so M g n = 1 ∨ so M g n = 2 ∨ so M g n = 12 ∨ so M g n = 13 ∨ so M g n = 29 ∨ so M g n = 30 ∨ so M g n = 32) → Cv G y_MM_todo (d + 2) [vr a, vi 1, vi n] M (fun M1 => mOk M1 ∧ (mK M1 a = 14 ∧ mK M1 (mR M1 a 24) = 15 ∧ h_MM_begin_166 G (d + 2) a g (mI M1 (mR M1 a 24) 1) (fp M g n) M1 Q))) : Cv G y_MM_begin (d + 3) [vr a, vr g, vi n] M Q := by
  obtain ⟨hO, w, hg, hd, hB, -, -⟩ := id h
  have gp := w.gp hg
  have r0 : mR M g 0 = g + 1 := gp.2.1.1
  have r3 : mR M g 3 = g + 7 := gp.2.1.2.2.2.1
  have r4 : mR M g 4 = g + 9 := gp.2.1.2.2.2.2.1
  have i1 := tL_in (a := a) (q := g + 1) hg (by omega)
  have i7 := tL_in (a := a) (q := g + 7) hg (by omega)
  have i9 := tL_in (a := a) (q := g + 9) hg (by omega)
  have l1 := hd (g + 1) (by omega)
  have l7 := hd (g + 7) (by omega)
  have l9 := hd (g + 9) (by omega)
  refine k_MM_begin hO (i32s (by omega) (by omega)) ?_
  rw [r0]
  refine ⟨gp.1, (w.nu i1).1, h.rd i1 (by omega) (fun s hs is => ⟨is, hO, gp.1, ?_⟩)⟩
  have hs' : s = so M g n := hs
  rw [← hs'] at h1 h2 h3 h4 h5
  rw [r4]
  refine ⟨(w.nu i9).1, h.rd i9 (by omega) (fun x hx ix => ⟨ix, hO, fun q1 => ⟨gp.1, ?_⟩, fun q1 => ⟨fun q2 => ⟨gp.1, ?_⟩, fun q2 => ⟨fun q3 v hv => ⟨w.1.1, ?_⟩, fun q3 => ⟨fun q4 => ⟨w.1.1, ?_⟩, fun q4 => ⟨w.1.1, ?_⟩⟩⟩⟩⟩)⟩
  · rw [r3]
    refine ⟨(w.nu i7).1, h.rd i7 (by omega) (fun y hy iy => ⟨iy, hO, w.1.1, ?_⟩)⟩
    rw [show y = va M g n from hy]
    exact h1 q1
  · rw [r3]
    refine ⟨(w.nu i7).1, h.rd i7 (by omega) (fun y hy iy => ⟨iy, hO, w.1.1, ?_⟩)⟩
    rw [show y = va M g n from hy]
    exact h2 q2
  · rw [hv]
    exact h3 q3
  · rw [show x = fp M g n from hx]
    exact h4 q4
  · rw [show x = fp M g n from hx]
    exact h5 (by omega)
/-- a leaf's value is pushed, or its formula is to be worked out -/
def lfQ (F : Prop) (M : mM) (a g V X n : Nat) (t : Int) (M' : mM) : Prop := (∃ A B : Int, vok t A B ∧ psQ M a V A B M') ∨ (so M g n = 1 ∧ t = tn M g (va M g n) ∧ nfQ F M a g X (va M g n) M')
theorem s_bg_leaf {t : Int} (h : Ev F M a g R W T) (hn : n < T) (hs : so M g n = 1 ∨ so M g n = 2 ∨ so M g n = 12 ∨ so M g n = 13) (h2 : so M g n = 2 → 0 ≤ va M g n ∧ va M g n < 1000000000) (h1 : so M g n = 1 → nme F M g R W (va M g n)) (ht : tyn (tn M g) (so M g n) (va M g n) 0 (fun _ => 0) t) (hV : mI M a 23 = (V : Int)) (hb : V < 16400) (hl : ln M (a + 99) = (X : Int)) (hX : X ≤ 64000) : Cv G y_MM_begin (d + 3) [vr a, vr g, vi n] M (fun M' => mOk M' ∧ lfQ F M a g V X n t M') := by
  obtain ⟨hO, w, -⟩ := id h
  unfold tyn at ht
  refine s_bg h hn (fun q => ?_) (fun q => ?_) (fun q => ?_) (fun q => by omega) (fun q => by omega)
  · rw [if_pos q] at ht
    refine (s_MM_name (d := d) h (h1 q) hV hb hl hX).mono (fun M' t' => ⟨t'.1, t'.1, ?_⟩)
    rcases t'.2 with ⟨A, B, y1, y2⟩ | y
    · exact Or.inl ⟨A, B, by rw [ht]; exact y1, y2⟩
    · exact Or.inr ⟨q, ht, y⟩
  · rw [if_neg (by omega), if_pos q] at ht
    have := h2 q
    exact (s_MM_push ⟨by omega, by omega⟩ ⟨by omega, by omega⟩ hO w hV hb).mono (fun M' t' => ⟨t'.1, t'.1, Or.inl ⟨_, _, Or.inl ⟨ht, by omega, by omega, by omega, by omega⟩, t'.2⟩⟩)
  · rw [if_neg (by omega), if_neg (by omega), if_pos q] at ht
    refine (s_MM_pushTruth (d := d + 1) ⟨by split <;> omega, by split <;> omega⟩ hO w hV hb).mono (fun M' t' => ⟨t'.1, t'.1, Or.inl ⟨_, _, Or.inr ⟨ht, ?_, rfl⟩, t'.2⟩⟩)
    generalize (if so M g n = 12 then (1 : Int) else 0) = b
    by_cases z : b = 0
    · rw [if_pos z]; exact Or.inl rfl
    · rw [if_neg z]; exact Or.inr rfl
/-- and, or, ask begin with their first part -/
theorem s_bg_first (h : Ev F M a g R W T) (hn : n < T) (hs : so M g n = 29 ∨ so M g n = 30 ∨ so M g n = 32) (hl : ln M (a + 99) = (X : Int)) (hX : X ≤ 64000) : Cv G y_MM_begin (d + 3) [vr a, vr g, vi n] M (fun M' => mOk M' ∧ Mv (fun x => x = a + 99) (fun _ => False) M a M' ∧ ln M' (a + 99) = (X + 4 : Nat) ∧ (∀ j, j < X → nt M' (a + 99) j = nt M (a + 99) j) ∧ nt M' (a + 99) X = 2 ∧ nt M' (a + 99) (X + 1) = n ∧ nt M' (a + 99) (X + 2) = 0 ∧ nt M' (a + 99) (X + 3) = fp M g n) := by
  obtain ⟨hO, w, hg, hd, hB, -, -⟩ := id h
  refine s_bg h hn (fun q => by omega) (fun q => by omega) (fun q => by omega) (fun q => ?_) (fun q => by omega)
  refine (s_MM_todo (d := d + 1) ⟨by omega, by omega⟩ (i32s (by omega) (by omega)) hO w hl (by omega)).mono (fun M1 t => ?_)
  obtain ⟨o1, m1, l1, e1, x1, y1⟩ := t
  refine ⟨o1, m1.2.1.1.1, (s_MM_todo (d := d + 1) ⟨by omega, by omega⟩ (hO _ _).1 o1 m1.2.1 l1 (by omega)).mono (fun M2 t => ?_)⟩
  obtain ⟨o2, m2, l2, e2, x2, y2⟩ := t
  exact ⟨o2, o2, m1.trans m2, l2, fun j hj => by rw [e2 j (by omega), e1 j hj], by rw [e2 X (by omega)]; exact x1, by rw [e2 (X + 1) (by omega)]; exact y1, x2, y2⟩
/-- the parts are put on the pile -/
theorem s_bg166 {nm : Int → Prop} {Q : mM → Prop} {L : Int} (hL : i32 L) (h : Ev F M a g R W T) : ∀ (k f c e Y : Nat) (M3 : mM), 1 ≤ k → Tn nm M g f k c e → e ≤ T → Mv (fun x => x = a + 99) (fun _ => False) M a M3 → ln M3 (a + 99) = (Y : Int) → Y + 2 * k ≤ 65000 → (∀ M4, Mv (fun x => x = a + 99) (fun _ => False) M a M4 → ln M4 (a + 99) = (Y + 2 * k : Nat) → (∀ j, j < Y → nt M4 (a + 99) j = nt M3 (a + 99) j) → (∀ j, j < k → nt M4 (a + 99) (Y + 2 * j) = 0 ∧ nt M4 (a + 99) (Y + 2 * j + 1) = ci M g c j) → h_MM_begin_166 G (d + 2) a g L (-1) M4 Q) → h_MM_begin_166 G (d + 2) a g L c M3 Q := by
  obtain ⟨hO, w, hg, hd, hB, -, -⟩ := id h
  have i11 := tL_in (a := a) (q := g + 11) hg (by omega)
  have l11 := hd (g + 11) (by omega)
  intro k
  induction k with
  | zero => intro f c e Y M3 hk; omega
  | succ k ih =>
    intro f c e Y M3 hk ht he m3 l3 hY hQ
    have hlt := ht.lt
    have w3 := m3.2.1
    refine k_MM_begin_166 m3.1 hL (i32s (by omega) (by omega)) ⟨fun q => by omega, fun _ => ⟨w3.1.1, (s_MM_todo (d := d + 1) ⟨by omega, by omega⟩ (i32s (by omega) (by omega)) m3.1 w3 l3 (by omega)).mono (fun M4 t => ?_)⟩⟩
    obtain ⟨o4, m4, l4, e4, x4, y4⟩ := t
    have w4 := m4.2.1
    have gp := w4.gp hg
    have m34 := m3.trans m4
    have s11 := m34.lst i11 (by omega)
    rw [show mR M4 g 5 = g + 11 from gp.2.1.2.2.2.2.2.1]
    refine ⟨o4, gp.1, (w4.nu i11).1, (s_MN_at o4 (w4.nu i11) (by rw [s11.1]; omega)).mono (fun z M5 e5 => ?_)⟩
    obtain ⟨e5, hz⟩ := e5
    subst e5
    rw [s11.2.1] at hz
    refine ⟨by rw [hz]; exact (hO _ _).1, o4, ?_⟩
    cases f with
    | zero => exact ht.elim
    | succ f =>
      rw [Tn, if_neg (by omega)] at ht
      by_cases k0 : k + 1 = 1
      · rw [if_pos k0] at ht
        have : z = -1 := hz.trans ht.1
        rw [this]
        refine hQ M5 m34 (by rw [l4]; omega) (fun j hj => e4 j hj) (fun j hj => ?_)
        have : j = 0 := by omega
        subst this
        exact ⟨x4, y4⟩
      · rw [if_neg k0] at ht
        obtain ⟨m, q1, q2, q3⟩ := ht
        have hzm : z = (m : Int) := hz.trans q1
        rw [hzm]
        refine ih f m e (Y + 2) M5 (by omega) q3 he m34 (by rw [l4]) (by omega) (fun M7 m7 l7 e7 v7 => ?_)
        refine hQ M7 m7 (by rw [l7]; omega) (fun j hj => (e7 j (by omega)).trans (e4 j hj)) (fun j hj => ?_)
        cases j with
        | zero => exact ⟨(e7 Y (by omega)).trans x4, (e7 (Y + 1) (by omega)).trans y4⟩
        | succ j =>
          have := v7 j (by omega)
          rw [ci_succ q1, show Y + 2 * (j + 1) = Y + 2 + 2 * j by omega]
          exact this
/-- a node with parts puts itself and them on the pile -/
theorem s_bg_parts {nm : Int → Prop} {k f e : Nat} (h : Ev F M a g R W T) (hn : n < T) (hk : 1 ≤ k) (hs : ¬ (so M g n = 1 ∨ so M g n = 2 ∨ so M g n = 12 ∨ so M g n = 13 ∨ so M g n = 29 ∨ so M g n = 30 ∨ so M g n = 32)) (hf : fp M g n = ((n + 1 : Nat) : Int)) (ht : Tn nm M g f k (n + 1) e) (he : e ≤ T) (hl : ln M (a + 99) = (X : Int)) (hX : X + 2 * k ≤ 64000) : Cv G y_MM_begin (d + 3) [vr a, vr g, vi n] M (fun M' => mOk M' ∧ Mv (fun x => x = a + 99) (fun _ => False) M a M' ∧ ln M' (a + 99) = (X + 2 + 2 * k : Nat) ∧ (∀ j, j < X → nt M' (a + 99) j = nt M (a + 99) j) ∧ nt M' (a + 99) X = 1 ∧ nt M' (a + 99) (X + 1) = n ∧ ∀ j, j < k → nt M' (a + 99) (X + 2 + 2 * (k - 1 - j)) = 0 ∧ nt M' (a + 99) (X + 2 + 2 * (k - 1 - j) + 1) = ci M g (n + 1) j) := by
  obtain ⟨hO, w, hg, hd, hB, -, -⟩ := id h
  have hge := ht.ge
  refine s_bg h hn (fun q => absurd (by omega) hs) (fun q => absurd (by omega) hs) (fun q => absurd (by omega) hs) (fun q => absurd (by omega) hs) (fun q => ?_)
  refine (s_MM_todo (d := d + 1) ⟨by omega, by omega⟩ (i32s (by omega) (by omega)) hO w hl (by omega)).mono (fun M1 t => ?_)
  obtain ⟨o1, m1, l1, e1, x1, y1⟩ := t
  have w1 := m1.2.1
  have l1' : mI M1 (a + 99) 1 = (X + 2 : Nat) := l1
  rw [r24w w1, l1', hf]
  refine ⟨o1, w1.1.1, (w1.nu n99).1, s_bg166 (i32s (by omega) (by omega)) h k f (n + 1) e (X + 2) M1 hk ht he m1 l1 (by omega) (fun M4 m4 l4 e4 v4 => ?_)⟩
  have w4 := m4.2.1
  refine k_MM_begin_166 m4.1 (i32s (by omega) (by omega)) (i32s (by omega) (by omega)) ⟨fun _ => ⟨w4.1.1, (s_MM_turnTodo (d := d + 1) m4.1 w4 l4 (by omega) hk).mono (fun M5 t => ?_)⟩, fun q => absurd (by decide) q⟩
  obtain ⟨m5, l5, t5, u5⟩ := t
  have low : ∀ j, j < X + 2 → nt M5 (a + 99) j = nt M1 (a + 99) j := fun j hj => by rw [u5 j (fun i hi => by omega), e4 j hj]
  refine ⟨m5.1, m5.1, m4.trans m5, by rw [l5, l4], fun j hj => by rw [low j (by omega), e1 j hj], by rw [low X (by omega)]; exact x1, by rw [low (X + 1) (by omega)]; exact y1, fun j hj => ⟨?_, ?_⟩⟩
  · rw [u5 _ (fun i hi => by omega)]
    exact (v4 (k - 1 - j) (by omega)).1
  · rw [t5 (k - 1 - j) (by omega), show k - 1 - (k - 1 - j) = j by omega]
    exact (v4 j hj).2
end BG
end
section
/-! The reference: what working out may change. -/
section EO
variable {G : mG} {F : Prop} {d a g R W T V X n : Nat} {M M2 M3 M4 : mM} {P S : Nat → Prop}
/-- the game's rules and variables, and where the variables stand -/
def gsame (M : mM) (a g : Nat) (M3 : mM) : Prop := mI M3 (g + 13) = mI M (g + 13) ∧ mI M3 (g + 14) = mI M (g + 14) ∧ mI M3 (g + 15) = mI M (g + 15) ∧ mI M3 (g + 18) = mI M (g + 18) ∧ mL M3 (g + 16) = mL M (g + 16) ∧ mL M3 (g + 17) = mL M (g + 17) ∧ mI M3 (a + 101) = mI M (a + 101)
abbrev woS (a : Nat) : Nat → Prop := fun x => x = a ∨ x = a + 97 ∨ x = a + 98 ∨ x = a + 102 ∨ x = a + 103 ∨ x = a + 104
theorem gs_mv (hg : g = a + 13 ∨ g = a + 49) (w : Wd M a) (m : Mv P S M a M3) (hin : ∀ q, P q → q ∈ nums a) (hS : ∀ x, S x → woS a x) : gsame M a g M3 := by
  have no : ∀ i, 13 ≤ i → i ≤ 18 → ¬ S (g + i) := fun i i1 i2 z => by
    have : g + i = a ∨ g + i = a + 97 ∨ g + i = a + 98 ∨ g + i = a + 102 ∨ g + i = a + 103 ∨ g + i = a + 104 := hS _ z
    omega
  have c13 := m.cellL w hin (goffx (i := 13) hg (by decide) (by decide)) (no 13 (by omega) (by omega))
  have c14 := m.cellL w hin (goffx (i := 14) hg (by decide) (by decide)) (no 14 (by omega) (by omega))
  have c15 := m.cellL w hin (goffx (i := 15) hg (by decide) (by decide)) (no 15 (by omega) (by omega))
  have c16 := m.cellL w hin (goffx (i := 16) hg (by decide) (by decide)) (no 16 (by omega) (by omega))
  have c17 := m.cellL w hin (goffx (i := 17) hg (by decide) (by decide)) (no 17 (by omega) (by omega))
  have c18 := m.cellL w hin (goffx (i := 18) hg (by decide) (by decide)) (no 18 (by omega) (by omega))
  have c101 := m.cellL w hin (offx (a := a) (o := 101) (by decide)) (fun z => by
    have : a + 101 = a ∨ a + 101 = a + 97 ∨ a + 101 = a + 98 ∨ a + 101 = a + 102 ∨ a + 101 = a + 103 ∨ a + 101 = a + 104 := hS _ z
    omega)
  exact ⟨c13.1, c14.1, c15.1, c18.1, c16.2, c17.2, c101.1⟩
theorem gsame.tyn (h : gsame M a g M3) : tn M3 g = tn M g := by
  funext v
  unfold tn
  rw [h.2.1, h.2.2.2.1]
theorem Ev.step (h : Ev F M a g R W T) (m : Mv P S M a M3) (hP : ∀ q, P q → q = a + 99) (hS : ∀ x, S x → vS a x) : Ev F M3 a g R W T := by
  obtain ⟨hO, w, hg, hd, hB, hr, hw⟩ := h
  have hin : ∀ q, P q → q ∈ nums a := fun q hq => by rw [hP q hq]; exact n99
  have hS' : ∀ x, S x → woS a x := fun x z => by
    have : x = a ∨ x = a + 97 ∨ x = a + 98 := hS _ z
    show x = a ∨ x = a + 97 ∨ x = a + 98 ∨ x = a + 102 ∨ x = a + 103 ∨ x = a + 104
    omega
  have gs := gs_mv hg w m hin hS'
  have no : ∀ i, 102 ≤ i → i ≤ 104 → ¬ S (a + i) := fun i i1 i2 z => by
    have : a + i = a ∨ a + i = a + 97 ∨ a + i = a + 98 := hS _ z
    omega
  have c102 := (m.cellL w hin (offx (a := a) (o := 102) (by decide)) (no 102 (by omega) (by omega))).1
  have c103 := (m.cellL w hin (offx (a := a) (o := 103) (by decide)) (no 103 (by omega) (by omega))).2
  have c104 := (m.cellL w hin (offx (a := a) (o := 104) (by decide)) (no 104 (by omega) (by omega))).2
  have gt := gs.tyn
  obtain ⟨g13, g14, g15, g18, g16, g17, g101⟩ := gs
  refine ⟨m.1, m.2.1, hg, fun q hq => ?_, hB, ?_, ?_⟩
  · have hq' : q = g + 1 ∨ q = g + 3 ∨ q = g + 5 ∨ q = g + 7 ∨ q = g + 9 ∨ q = g + 11 := hq
    rw [(m.lst (tL_in hg hq) (fun z => by have := hP q z; omega)).1]
    exact hd q hq
  · rw [gt, g13, g16, g17, c102, c103, c104]
    exact hr
  · rw [gt, g18, g101]
    exact hw
/-- so far, working out has changed only what it may -/
def EO (F : Prop) (M : mM) (a g R W T : Nat) (M3 : mM) : Prop := Mv (fun x => x = a + 99) (woS a) M a M3 ∧ Ev F M3 a g R W T ∧ ∀ i, i ≠ 16 → i ≠ 17 → i ≠ 23 → mI M3 a i = mI M a i
theorem lt99 (w : Wd M a) : ∀ q, q = a + 99 → q < mZ M := fun q hq => by rw [hq]; exact w.lt n99
theorem EO.refl (h : Ev F M a g R W T) : EO F M a g R W T M := ⟨Mv.refl h.1 h.2.1 (lt99 h.2.1), h, fun _ _ _ _ => rfl⟩
theorem EO.step (h : EO F M a g R W T M2) (m : Mv P S M2 a M3) (hP : ∀ q, P q → q = a + 99) (hS : ∀ x, S x → vS a x) (hf : ∀ i, i ≠ 16 → i ≠ 17 → i ≠ 23 → mI M3 a i = mI M2 a i) : EO F M a g R W T M3 := by
  refine ⟨h.1.trans (m.mono hP (fun x hx => ?_) (lt99 h.1.2.1)), h.2.1.step m hP hS, fun i i1 i2 i3 => (hf i i1 i2 i3).trans (h.2.2 i i1 i2 i3)⟩
  have : x = a ∨ x = a + 97 ∨ x = a + 98 := hS _ hx
  show x = a ∨ x = a + 97 ∨ x = a + 98 ∨ x = a + 102 ∨ x = a + 103 ∨ x = a + 104
  omega
theorem EO.gs (w : Wd M a) (h : EO F M a g R W T M3) : gsame M a g M3 :=
  gs_mv h.2.1.2.2.1 w h.1 (fun q hq => by rw [hq]; exact n99) (fun x hx => hx)
theorem EO.nod (h : EO F M a g R W T M3) : ∀ n, so M3 g n = so M g n ∧ va M3 g n = va M g n ∧ fp M3 g n = fp M g n ∧ np M3 g n = np M g n := by
  have hg := h.2.1.2.2.1
  intro n
  exact ⟨(h.1.lst (tL_in (q := g + 1) hg (by omega)) (by omega)).2.1 n, (h.1.lst (tL_in (q := g + 7) hg (by omega)) (by omega)).2.1 n, (h.1.lst (tL_in (q := g + 9) hg (by omega)) (by omega)).2.1 n, (h.1.lst (tL_in (q := g + 11) hg (by omega)) (by omega)).2.1 n⟩
theorem EO.tnn {nm : Int → Prop} {f md n e : Nat} (h : EO F M a g R W T M3) (t : Tn nm M g f md n e) : Tn nm M3 g f md n e :=
  t.fr (fun k _ _ => ⟨(h.nod k).1, (h.nod k).2.1, (h.nod k).2.2.1⟩) (fun k _ _ => (h.nod k).2.2.2) (fun _ => (h.nod n).2.2.2)
/-- a step of the pile alone -/
theorem kp99 (w : Wd M2 a) (m : Mv (fun x => x = a + 99) (fun _ => False) M2 a M3) : mI M3 a = mI M2 a ∧ mL M3 (a + 97) = mL M2 (a + 97) ∧ mL M3 (a + 98) = mL M2 (a + 98) := by
  have hin : ∀ q, q = a + 99 → q ∈ nums a := fun q hq => by rw [hq]; exact n99
  exact ⟨(m.fld w hin (fun z => z)).1, (m.cellL w hin (offx (a := a) (o := 97) (by decide)) (fun z => z)).2, (m.cellL w hin (offx (a := a) (o := 98) (by decide)) (fun z => z)).2⟩
theorem EO.pile (h : EO F M a g R W T M2) (m : Mv (fun x => x = a + 99) (fun _ => False) M2 a M3) : EO F M a g R W T M3 :=
  h.step m (fun q hq => hq) (fun x hx => hx.elim) (fun i _ _ _ => by rw [(kp99 h.1.2.1 m).1])
theorem vok_i64 {t A B : Int} (h : vok t A B) : i64 A ∧ i64 B := by
  unfold vok at h
  exact ⟨⟨by omega, by omega⟩, ⟨by omega, by omega⟩⟩
/-- a formula's value is kept -/
theorem EO.met {r : Nat} {A B : Int} {M5 M6 : mM} (w0 : Wd M a) (h : EO F M a g R W T M3) (hv : vok (tn M g r) A B) (e4 : M4 = mUI M3 (a + 102) r 1) (e5 : M5 = mUL M4 (a + 103) r A) (e6 : M6 = mUL M5 (a + 104) r B) : EO F M a g R W T M6 ∧ mI M6 a = mI M3 a ∧ sameN M3 M6 (a + 99) ∧ mL M6 (a + 97) = mL M3 (a + 97) ∧ mL M6 (a + 98) = mL M3 (a + 98) := by
  have w3 := h.1.2.1
  have gs := h.gs w0
  obtain ⟨hA, hB⟩ := vok_i64 hv
  have o102 := offx (a := a) (o := 102) (by decide)
  have f4 : FI (fun x => x = a + 102) M3 M4 := by rw [e4]; exact FI.ui rfl
  have m4 : Mv (fun _ => False) (fun x => x = a + 102) M3 a M4 := mv_fi (by rw [e4]; exact mOk_UI h.1.1 ⟨by decide, by decide⟩) w3 f4 (fun x z => by rw [z]; exact ⟨by omega, by omega, o102.2.1, o102.2.2⟩)
  obtain ⟨m5, l5, i5⟩ := mv_ul hA m4.1 m4.2.1 e5
  obtain ⟨m6, l6, i6⟩ := mv_ul hB m5.1 m5.2.1 e6
  have no : ∀ q : Nat, False → q = a + 99 := fun _ z => z.elim
  have mm : Mv (fun x => x = a + 99) (woS a) M3 a M6 := ((m4.mono no (fun x z => Or.inr (Or.inr (Or.inr (Or.inl z)))) (lt99 w3)).trans (m5.mono no (fun x z => Or.inr (Or.inr (Or.inr (Or.inr (Or.inl z))))) (lt99 m4.2.1))).trans (m6.mono no (fun x z => Or.inr (Or.inr (Or.inr (Or.inr (Or.inr z))))) (lt99 m5.2.1))
  have iI : ∀ x, x ≠ a + 102 → mI M6 x = mI M3 x := fun x hx => by rw [i6, i5]; exact f4.2.2.2.2.2.2 x hx
  have lM4 : mL M4 = mL M3 := f4.2.2.2.1
  have lL : ∀ x, x ≠ a + 103 → x ≠ a + 104 → mL M6 x = mL M3 x := fun x h1 h2 => by
    funext k
    rw [l6, if_neg (fun z => h2 z.1), l5, if_neg (fun z => h1 z.1), lM4]
  have s99 : sameN M3 M6 (a + 99) := ((m4.lst n99 (fun z => z)).trans (m5.lst n99 (fun z => z))).trans (m6.lst n99 (fun z => z))
  obtain ⟨hO, w, hg, hd, hBd, hr, hw⟩ := id h.2.1
  have gs6 := gs_mv hg w3 mm (fun q hq => by rw [hq]; exact n99) (fun x hx => hx)
  have gt := gs6.tyn
  have gt3 := gs.tyn
  refine ⟨⟨h.1.trans mm, ⟨m6.1, m6.2.1, hg, fun q hq => ?_, hBd, ?_, ?_⟩, fun i i1 i2 i3 => by rw [iI a (by omega)]; exact h.2.2 i i1 i2 i3⟩, iI a (by omega), s99, lL _ (by omega) (by omega), lL _ (by omega) (by omega)⟩
  · have hq' : q = g + 1 ∨ q = g + 3 ∨ q = g + 5 ∨ q = g + 7 ∨ q = g + 9 ∨ q = g + 11 := hq
    rw [(mm.lst (tL_in hg hq) (by omega)).1]
    exact hd q hq
  · obtain ⟨g13, g14, g15, g18, g16, g17, g101⟩ := gs6
    rw [gt, g13, g16, g17]
    intro r' hr'
    refine ⟨(hr r' hr').1, fun hF q1 q2 => ?_⟩
    by_cases z : r' = r
    · rw [l6, l5, l6, if_neg (fun y => by omega), if_pos ⟨rfl, z⟩, if_pos ⟨rfl, z⟩, z, gt3]
      exact hv
    · rw [l6, l5, l6, l5, if_neg (fun y => z y.2), if_neg (fun y => z y.2), if_neg (fun y => z y.2), if_neg (fun y => z y.2), lM4]
      rw [i6, i5, e4, mI_UI, if_neg (fun y => z y.2)] at q2
      exact (hr r' hr').2 hF q1 q2
  · obtain ⟨g13, g14, g15, g18, g16, g17, g101⟩ := gs6
    rw [gt, g18, g101]
    exact hw
end EO
end
section
/-! The reference: working out, a step. -/
section WO
variable {G : mG} {F : Prop} {d a g R W T : Nat} {M M2 M3 M4 : mM} {Q : mM → Prop} {E : Nat → Nat}
/-- the formulas' trees -/
def Fm (M : mM) (g R W T : Nat) (E : Nat → Nat) : Prop := ∀ r : Nat, r < R → mI M (g + 13) r ≠ 0 → ∃ n f : Nat, mI M (g + 15) r = (n : Int) ∧ E r ≤ T ∧ (∀ r' : Nat, r' < r → mI M (g + 13) r' ≠ 0 → E r' ≤ n) ∧ Ty (nme True M g r W) (tn M g) M g f 0 n (E r) (fun _ => tn M g r)
/-- a pair has been taken from the pile -/
def tkd (M2 : mM) (a X : Nat) (M4 : mM) : Prop := Mv (fun x => x = a + 99) (fun _ => False) M2 a M4 ∧ ln M4 (a + 99) = (X : Int) ∧ ∀ j, nt M4 (a + 99) j = nt M2 (a + 99) j
theorem s_wo2 {n X : Nat} {s : Int} (h : EO F M a g R W T M2) (h16 : mI M2 a 16 = 0) (hl : ln M2 (a + 99) = (X + 2 : Nat)) (hs : s = 0 ∨ s = 1 ∨ s = 2 ∨ s = 3) (e0 : nt M2 (a + 99) X = s) (e1 : nt M2 (a + 99) (X + 1) = (n : Int))
    (h0 : s = 0 → ∀ M4, tkd M2 a X M4 → Cv G y_MM_begin (d + 3) [vr a, vr g, vi n] M4 (fun M5 => mOk M5 ∧ h_MM_workOut_19 G (d + 3) a g M5 Q))
    (h1 : s = 1 → ∀ M4, tkd M2 a X M4 → Cv G y_MM_finish (d + 3) [vr a, vr g, vi n] M4 (fun M5 => mOk M5 ∧ h_MM_workOut_19 G (d + 3) a g M5 Q))
    (h2 : s = 2 → ∀ M4, tkd M2 a X M4 → Cv G y_MM_choose0 (d + 3) [vr a, vr g, vi n] M4 (fun M5 => mOk M5 ∧ h_MM_workOut_19 G (d + 3) a g M5 Q))
    (h3 : s = 3 → ∀ M4, tkd M2 a X M4 → n < 60 ∧ ∃ V : Nat, mI M4 a 23 = (V + 1 : Nat) ∧ V < 16400 ∧ ∀ M5 M6 M7, M5 = mUI M4 (a + 102) n 1 → M6 = mUL M5 (a + 103) n (mL M4 (a + 97) V) → M7 = mUL M6 (a + 104) n (mL M4 (a + 98) V) → mOk M7 ∧ h_MM_workOut_19 G (d + 3) a g M7 Q) : h_MM_workOut_19 G (d + 3) a g M2 Q := by
  have hO := h.1.1
  have w := h.1.2.1
  have hl' : mI M2 (a + 99) 1 = (X + 2 : Nat) := hl
  refine k_MM_workOut_19 hO ?_
  rw [r24w w, hl', h16]
  refine ⟨w.1.1, (w.nu n99).1, fun q => by omega, fun _ => (s_MN_take hO (w.nu n99) (by omega)).mono (fun x M3 t => ?_)⟩
  have m3 := mv_take w n99 t
  have w3 := m3.2.1
  obtain ⟨-, -, -, t1, t2, t3⟩ := t
  rw [hl] at t1 t3
  rw [show (((X + 2 : Nat) : Int) - 1).toNat = X + 1 by omega, e1] at t3
  rw [r24w w3]
  refine ⟨by rw [t3, ← e1]; exact (hO _ _).1, m3.1, w3.1.1, (w3.nu n99).1, (s_MN_take m3.1 (w3.nu n99) (by omega)).mono (fun y M4 t => ?_)⟩
  have m4 := mv_take w3 n99 t
  have w4 := m4.2.1
  obtain ⟨-, -, -, u1, u2, u3⟩ := t
  rw [t1] at u1 u3
  rw [show (((X + 2 : Nat) : Int) - 1 - 1).toNat = X by omega, t2, e0] at u3
  subst t3
  subst u3
  have tk : tkd M2 a X M4 := ⟨m3.trans m4, by rw [u1]; omega, fun j => by rw [u2, t2]⟩
  have go : ∀ M5, mOk M5 ∧ h_MM_workOut_19 G (d + 3) a g M5 Q → mOk M5 ∧ h_MM_workOut_138 G (d + 3) a g M5 Q := fun M5 z => ⟨z.1, k_MM_workOut_138 z.1 z.2⟩
  refine ⟨i32s (by omega) (by omega), m4.1, fun q => ⟨w4.1.1, (h0 q M4 tk).mono go⟩, fun q0 => ⟨fun q => ⟨w4.1.1, (h1 q M4 tk).mono go⟩, fun q1 => ⟨fun q => ⟨w4.1.1, (h2 q M4 tk).mono go⟩, fun q2 => ?_⟩⟩⟩
  obtain ⟨n60, V, hV, hVb, hk⟩ := h3 (by omega) M4 tk
  have B := w4.1.2.2.2.2.1.2.2.2.2.2.2
  have r21 : mR M4 a 21 = a + 97 := B.1
  have r22 : mR M4 a 22 = a + 98 := B.2.1
  have r26 : mR M4 a 26 = a + 102 := B.2.2.2.2.1
  have r27 : mR M4 a 27 = a + 103 := B.2.2.2.2.2.1
  have r28 : mR M4 a 28 = a + 104 := B.2.2.2.2.2.2
  obtain ⟨A97, A98, A101, A102, A103, A104⟩ := w4.1.2.2.2.2.2.2.2.1
  rw [r26]
  refine ⟨w4.1.1, A102.1, by rw [A102.2]; omega, fun M5 e5 => ?_⟩
  rw [Int.toNat_natCast] at e5
  have R5 : mR M5 = mR M4 := by rw [e5]; rfl
  have K5 : mK M5 = mK M4 := by rw [e5]; rfl
  have N5 : mN M5 = mN M4 := by rw [e5]; rfl
  have L5 : mL M5 = mL M4 := by rw [e5]; rfl
  have I5 : mI M5 a 23 = (V + 1 : Nat) := by rw [e5, mI_UI, if_neg (fun z => by omega)]; exact hV
  rw [R5, K5, N5, L5, I5, r21, r27, show ((V + 1 : Nat) : Int) - 1 = (V : Int) by omega, Int.toNat_natCast, Int.toNat_natCast]
  refine ⟨A97.1, by rw [A97.2]; omega, A103.1, by rw [A103.2]; omega, fun M6 e6 => ?_⟩
  have R6 : mR M6 = mR M4 := by rw [e6]; exact R5
  have K6 : mK M6 = mK M4 := by rw [e6]; exact K5
  have N6 : mN M6 = mN M4 := by rw [e6]; exact N5
  have I6 : mI M6 a 23 = (V + 1 : Nat) := by rw [e6]; exact I5
  have L6 : mL M6 (a + 98) = mL M4 (a + 98) := by
    funext k
    rw [e6, mL_UL, if_neg (fun z => by omega), L5]
  rw [R6, K6, N6, I6, r22, r28, show ((V + 1 : Nat) : Int) - 1 = (V : Int) by omega, Int.toNat_natCast, L6]
  refine ⟨A98.1, by rw [A98.2]; omega, A104.1, by rw [A104.2]; omega, fun M7 e7 => ?_⟩
  have := hk M5 M6 M7 e5 e6 e7
  exact k_MM_workOut_138 this.1 this.2
/-- a fault ends it -/
theorem s_wo_f (hX : ∀ M3, EO F M a g R W T M3 → mI M3 a 16 ≠ 0 → Q M3) (h : EO F M a g R W T M3) (k : mI M3 a 16 = 0 → h_MM_workOut_19 G (d + 3) a g M3 Q) : h_MM_workOut_19 G (d + 3) a g M3 Q := by
  by_cases z : mI M3 a 16 = 0
  · exact k z
  · have w := h.1.2.1
    refine k_MM_workOut_19 h.1.1 ?_
    rw [r24w w]
    exact ⟨w.1.1, (w.nu n99).1, fun _ => hX M3 h z, fun q => absurd (Or.inr z) q⟩
theorem ci_cg {n : Nat} (h : ∀ k, np M4 g k = np M g k) : ∀ j, ci M4 g n j = ci M g n j
  | 0 => rfl
  | j + 1 => by rw [ci, ci, ci_cg h j]; exact h _
/-- trees have been worked out -/
def woR (F : Prop) (M : mM) (a g R W T Lk V kk : Nat) (u : Nat → Int) (M2 M3 : mM) : Prop := EO F M a g R W T M3 ∧ mI M3 a 16 = 0 ∧ ln M3 (a + 99) = (Lk : Int) ∧ (∀ j, j < Lk → nt M3 (a + 99) j = nt M2 (a + 99) j) ∧ mI M3 a 23 = (V + kk : Nat) ∧ (∀ j, j < V → mL M3 (a + 97) j = mL M2 (a + 97) j ∧ mL M3 (a + 98) j = mL M2 (a + 98) j) ∧ ∀ j, j < kk → vok (u j) (mL M3 (a + 97) (V + j)) (mL M3 (a + 98) (V + j))
theorem nme.up {b : Nat} {v : Int} (h : nme F M g b W v) (hb : b ≤ R) : nme F M g R W v := by
  rcases h with ⟨h1, h2, h3⟩ | h
  · exact Or.inl ⟨h1, by omega, h3⟩
  · exact Or.inr h
theorem nme.tr {b : Nat} {v : Int} (h : nme True M g b W v) (hF : F) : nme F M g b W v := by
  rcases h with ⟨h1, h2, h3⟩ | h
  · exact Or.inl ⟨h1, h2, Or.inl hF⟩
  · exact Or.inr ⟨hF, h.2⟩
theorem nme.gs {b : Nat} {v : Int} (h : nme F M g b W v) (gs : gsame M a g M3) : nme F M3 g b W v := by
  unfold nme
  rw [gs.1]
  exact h
end WO
end
section
/-! The reference: working out a tree. -/
section WR
variable {G : mG} {F : Prop} {d a g R W T : Nat} {M : mM} {Q : mM → Prop} {E : Nat → Nat}
theorem s_wo_run (h0 : Ev F M a g R W T) (hF : F → Fm M g R W T E) (hX : ∀ M3, EO F M a g R W T M3 → mI M3 a 16 ≠ 0 → Q M3) : ∀ (b f md n e n0 e0 Lk V kk : Nat) (u : Nat → Int) (M2 : mM), b ≤ R → (∀ r : Nat, r < b → mI M (g + 13) r ≠ 0 → E r ≤ n0) → kk = md + (1 - md) → Ty (nme F M g b W) (tn M g) M g f md n e u → n0 ≤ n → e ≤ e0 → e0 ≤ T → EO F M a g R W T M2 → mI M2 a 16 = 0 → ln M2 (a + 99) = (Lk + 2 * kk : Nat) → (∀ j, j < kk → nt M2 (a + 99) (Lk + 2 * (kk - 1 - j)) = 0 ∧ nt M2 (a + 99) (Lk + 2 * (kk - 1 - j) + 1) = ci M g n j) → mI M2 a 23 = (V : Int) → V + e0 ≤ T + (n - n0) → Lk + 2 * (e - n) ≤ 2 * (T - n0) → (∀ M3, woR F M a g R W T Lk V kk u M2 M3 → h_MM_workOut_19 G (d + 3) a g M3 Q) → h_MM_workOut_19 G (d + 3) a g M2 Q := by
  have w0 := h0.2.1
  have hBd := h0.2.2.2.2.1
  intro b
  induction b using Nat.strongRecOn with
  | _ b ihb =>
  intro f
  induction f using Nat.strongRecOn with
  | _ f ih =>
  intro md n e n0 e0 Lk V kk u M2 hbR hbE hkk ht hn0 he he0 h h16 lk pk hV hVb hLb hQ
  have hlt := ht.tn.lt
  cases f with
  | zero => exact ht.elim
  | succ f =>
    rw [Ty] at ht
    by_cases c0 : md = 0
    · subst c0
      have kk1 : kk = 1 := by omega
      subst kk1
      rw [if_pos rfl] at ht
      obtain ⟨p0, p1⟩ := pk 0 (by omega)
      rw [show Lk + 2 * (1 - 1 - 0) = Lk by omega] at p0 p1
      have pn : nt M2 (a + 99) (Lk + 1) = (n : Int) := p1
      obtain ⟨-, -, ht⟩ := ht
      rcases ht with ⟨b1, b2, b3, b4, b5, b6⟩ | ⟨k, c, b1, b2, b3, b4, b5⟩
      · -- a leaf
        refine s_wo2 (n := n) (X := Lk) (s := 0) h h16 lk (Or.inl rfl) p0 pn (fun _ M4 t4 => ?_) (fun z => absurd z (by decide)) (fun z => absurd z (by decide)) (fun z => absurd z (by decide))
        obtain ⟨m4, l4, e4⟩ := t4
        have E4 := h.pile m4
        have K4 := kp99 h.1.2.1 m4
        have nd4 := E4.nod n
        have gs4 := E4.gs w0
        refine (s_bg_leaf (t := u 0) (V := V) (X := Lk) E4.2.1 (by omega) (by rw [nd4.1]; exact b3) (by rw [nd4.1, nd4.2.1]; exact b4) (by rw [nd4.1, nd4.2.1]; exact fun z => ((b5 z).up hbR).gs gs4) (by rw [nd4.1, nd4.2.1, gs4.tyn]; exact b6) (by rw [K4.1]; exact hV) (by omega) l4 (by omega)).mono (fun M5 t5 => ⟨t5.1, ?_⟩)
        rcases t5.2 with ⟨A, B, v1, v2⟩ | ⟨q1, q2, q3⟩
        · obtain ⟨y1, y2, y3, y4, y5⟩ := v2
          have E5 := E4.step y1 (fun _ z => z.elim) (fun x hx => hx) (fun i _ _ i3 => y3 i i3)
          have s5 := y1.lst (n99 (a := a)) (fun z => z)
          refine hQ M5 ⟨E5, by rw [y3 16 (by omega), K4.1]; exact h16, by rw [s5.1]; exact l4, fun j hj => by rw [s5.2.1, e4], y2, fun j hj => ⟨by rw [y4, if_neg (by omega), K4.2.1], by rw [y5, if_neg (by omega), K4.2.2]⟩, fun j hj => ?_⟩
          have j0 : j = 0 := by omega
          subst j0
          rw [y4, y5, if_pos (by omega), if_pos (by omega)]
          exact v1
        · obtain ⟨fF, f1, f2, f3, m5, l5, e5, x3, xv, x0, xr⟩ := q3
          rw [nd4.2.1] at f1 f2 f3 xv xr q2
          rw [nd4.1] at q1
          rw [gs4.tyn] at q2
          rw [gs4.1] at f2
          rw [gs4.2.2.1] at xr
          have hv := b5 q1
          obtain ⟨r, hr, hrb⟩ : ∃ r : Nat, va M g n = (r : Int) ∧ r < b := by
            rcases hv with z | z
            · exact ⟨(va M g n).toNat, by omega, by omega⟩
            · exact absurd z.2.1 (by omega)
          rw [hr] at f2 f3 xv xr q2
          rw [Int.toNat_natCast] at f2 f3 xr
          obtain ⟨n', f', fr1, fr2, fr3, fr4⟩ := hF fF r (by omega) f2
          have E5 := E4.pile m5
          have K5 := kp99 E4.1.2.1 m5
          have hE := hbE r hrb f2
          have lt' := fr4.tn.lt
          refine ihb r hrb f' 0 n' (E r) n' (E r) (Lk + 2) V 1 (fun _ => tn M g r) M5 (by omega) fr3 (by omega) (fr4.mono (fun v z => ⟨z.tr fF, rfl⟩)) (Nat.le_refl _) (Nat.le_refl _) fr2 E5 (by rw [K5.1, K4.1]; exact h16) (by rw [l5]) (fun j hj => ?_) (by rw [K5.1, K4.1]; exact hV) (by omega) (by omega) (fun M6 h6 => ?_)
          · have j0 : j = 0 := by omega
            subst j0
            exact ⟨x0, xr.trans fr1⟩
          · obtain ⟨E6, z16, l6, e6, v6, k6, o6⟩ := h6
            refine s_wo2 (n := r) (X := Lk) (s := 3) E6 z16 l6 (Or.inr (Or.inr (Or.inr rfl))) (by rw [e6 Lk (by omega)]; exact x3) (by rw [e6 (Lk + 1) (by omega)]; exact xv) (fun z => absurd z (by decide)) (fun z => absurd z (by decide)) (fun z => absurd z (by decide)) (fun _ M7 t7 => ?_)
            obtain ⟨m7, l7, e7⟩ := t7
            have E7 := E6.pile m7
            have K7 := kp99 E6.1.2.1 m7
            refine ⟨by omega, V, by rw [K7.1]; exact v6, by omega, fun M8 M9 M10 e8 e9 e10 => ?_⟩
            have o := o6 0 (by omega)
            rw [show V + 0 = V by omega, ← K7.2.1, ← K7.2.2] at o
            obtain ⟨E10, i10, s10, la10, lb10⟩ := E7.met w0 o e8 e9 e10
            refine ⟨E10.1.1, hQ M10 ⟨E10, by rw [i10, K7.1]; exact z16, by rw [s10.1]; exact l7, fun j hj => by rw [s10.2.1, e7, e6 j (by omega), e5 j hj, e4], by rw [i10, K7.1]; exact v6, fun j hj => ⟨by rw [la10, K7.2.1, (k6 j hj).1, K5.2.1, K4.2.1], by rw [lb10, K7.2.2, (k6 j hj).2, K5.2.2, K4.2.2]⟩, fun j hj => ?_⟩⟩
            have j0 : j = 0 := by omega
            subst j0
            rw [q2, la10, lb10]
            exact o
      · -- a node with parts
        have hge := b4.tn.ge
        have nl : ¬ (so M g n = 1 ∨ so M g n = 2 ∨ so M g n = 12 ∨ so M g n = 13) := fun z => by unfold ari at b2; omega
        have hty : tyr (so M g n) k c (u 0) := by
          unfold tyn at b5
          rw [if_neg (by omega), if_neg (by omega), if_neg (by omega)] at b5
          exact b5
        by_cases cs : so M g n = 29 ∨ so M g n = 30 ∨ so M g n = 32
        · -- and, or, ask
          have k2 : 2 ≤ k := by unfold ari at b2; omega
          cases f with
          | zero => exact b4.elim
          | succ f1 =>
            have b4' := b4
            rw [Ty, if_neg (by omega), if_neg (by omega)] at b4'
            obtain ⟨m, q1, q2, q3⟩ := b4'
            have l1 := q2.tn.lt
            have l3 := q3.tn.ge
            refine s_wo2 (n := n) (X := Lk) (s := 0) h h16 lk (Or.inl rfl) p0 pn (fun _ M4 t4 => ?_) (fun z => absurd z (by decide)) (fun z => absurd z (by decide)) (fun z => absurd z (by decide))
            obtain ⟨m4, l4, e4⟩ := t4
            have E4 := h.pile m4
            have K4 := kp99 h.1.2.1 m4
            have nd4 := E4.nod n
            refine (s_bg_first (X := Lk) E4.2.1 (by omega) (by rw [nd4.1]; exact cs) l4 (by omega)).mono (fun M5 t5 => ⟨t5.1, ?_⟩)
            obtain ⟨-, m5, l5, e5, x2, xn, x0, xf⟩ := t5
            rw [nd4.2.2.1] at xf
            have E5 := E4.pile m5
            have K5 := kp99 E4.1.2.1 m5
            refine ih f1 (by omega) 0 (n + 1) m n0 e0 (Lk + 2) V 1 c M5 hbR hbE (by omega) q2 (by omega) (by omega) he0 E5 (by rw [K5.1, K4.1]; exact h16) (by rw [l5]) (fun j hj => ?_) (by rw [K5.1, K4.1]; exact hV) (by omega) (by omega) (fun M6 h6 => ?_)
            · have j0 : j = 0 := by omega
              subst j0
              exact ⟨x0, xf.trans b3⟩
            · obtain ⟨E6, z16, l6, e6, v6, k6, o6⟩ := h6
              refine s_wo2 (n := n) (X := Lk) (s := 2) E6 z16 l6 (Or.inr (Or.inr (Or.inl rfl))) (by rw [e6 Lk (by omega)]; exact x2) (by rw [e6 (Lk + 1) (by omega)]; exact xn) (fun z => absurd z (by decide)) (fun z => absurd z (by decide)) (fun _ M7 t7 => ?_) (fun z => absurd z (by decide))
              obtain ⟨m7, l7, e7⟩ := t7
              have E7 := E6.pile m7
              have K7 := kp99 E6.1.2.1 m7
              have nd7 := E7.nod
              refine (s_MM_choose0 (d := d + 1) (V := V) (X := Lk) (c1 := n + 1) (c2 := m) E7.2.1 (by omega) (by rw [(nd7 n).2.2.1]; exact b3) (by omega) (by rw [(nd7 (n + 1)).2.2.2]; exact q1) (by omega) (by rw [K7.1]; exact v6) (by omega) l7 (by omega)).mono (fun M8 t8 => ⟨t8.1, ?_⟩)
              have lowT : ∀ j, j < Lk → nt M7 (a + 99) j = nt M2 (a + 99) j := fun j hj => by rw [e7, e6 j (by omega), e5 j hj, e4]
              have lowV : ∀ j, j < V → mL M7 (a + 97) j = mL M2 (a + 97) j ∧ mL M7 (a + 98) j = mL M2 (a + 98) j := fun j hj => ⟨by rw [K7.2.1, (k6 j hj).1, K5.2.1, K4.2.1], by rw [K7.2.2, (k6 j hj).2, K5.2.2, K4.2.2]⟩
              rcases t8.2 with ⟨y1, y2⟩ | ⟨cc, hcc, m8, v8, f8, l8, e8, x8, y8⟩
              · subst y2
                rw [(nd7 n).1] at y1
                refine hQ M8 ⟨E7, by rw [K7.1]; exact z16, l7, lowT, by rw [K7.1]; exact v6, lowV, fun j hj => ?_⟩
                have j0 : j = 0 := by omega
                subst j0
                have o := o6 0 (by omega)
                rw [← K7.2.1, ← K7.2.2] at o
                unfold tyr at hty
                rw [if_pos (by omega)] at hty
                rw [hty.2, ← hty.1 0 (by omega)]
                exact o
              · have E8 := E7.step m8 (fun q hq => hq) (fun x hx => Or.inl hx) (fun i _ _ i3 => f8 i i3)
                have w7 := E7.1.2.1
                have in9 : ∀ q, q = a + 99 → q ∈ nums a := fun q hq => by rw [hq]; exact n99
                have l97 := (m8.cellL w7 in9 (offx (a := a) (o := 97) (by decide)) (by omega)).2
                have l98 := (m8.cellL w7 in9 (offx (a := a) (o := 98) (by decide)) (by omega)).2
                obtain ⟨n2, e2, f2, u2, d1, d2, d3, d4, d5, d6⟩ : ∃ (n2 e2 f2 : Nat) (u2 : Nat → Int), cc = (n2 : Int) ∧ f2 < f1 + 1 + 1 ∧ Ty (nme F M g b W) (tn M g) M g f2 0 n2 e2 u2 ∧ u2 0 = u 0 ∧ m ≤ n2 ∧ e2 ≤ e := by
                  unfold tyr at hty
                  cases f1 with
                  | zero => exact q3.elim
                  | succ f2 =>
                    by_cases c32 : so M g n = 32
                    · have k3 : k = 3 := by unfold ari at b2; omega
                      subst k3
                      rw [if_neg (by omega), if_neg (by omega), if_pos c32] at hty
                      rw [Ty, if_neg (by omega), if_neg (by omega)] at q3
                      obtain ⟨m2, r1, r2, r3⟩ := q3
                      have g1 := r2.tn.lt
                      have g2 := r3.tn.lt
                      rcases hcc with z | z
                      · exact ⟨m, m2, f2, _, z, by omega, r2, hty.2.1, Nat.le_refl _, by omega⟩
                      · cases f2 with
                        | zero => exact r3.elim
                        | succ f3 =>
                          rw [Ty, if_neg (by omega), if_pos (by omega)] at r3
                          exact ⟨m2, e, f3, _, z.2.trans ((nd7 m).2.2.2.trans r1), by omega, r3.2, hty.2.2, by omega, Nat.le_refl _⟩
                    · have k3 : k = 2 := by unfold ari at b2; omega
                      subst k3
                      rw [if_pos (by omega)] at hty
                      rw [Ty, if_neg (by omega), if_pos (by omega)] at q3
                      rcases hcc with z | z
                      · exact ⟨m, e, f2, _, z, by omega, q3.2, (hty.1 1 (by omega)).trans hty.2.symm, Nat.le_refl _, Nat.le_refl _⟩
                      · exact absurd ((nd7 n).1.symm.trans z.1) c32
                have g3 := d3.tn.lt
                refine ih f2 d2 0 n2 e2 n0 e0 Lk V 1 u2 M8 hbR hbE (by omega) d3 (by omega) (by omega) he0 E8 (by rw [f8 16 (by omega), K7.1]; exact z16) (by rw [l8]) (fun j hj => ?_) v8 (by omega) (by omega) (fun M9 h9 => hQ M9 ?_)
                · have j0 : j = 0 := by omega
                  subst j0
                  exact ⟨x8, y8.trans d1⟩
                · obtain ⟨E9, y16, l9, e9, v9, k9, o9⟩ := h9
                  refine ⟨E9, y16, l9, fun j hj => by rw [e9 j hj, e8 j hj, lowT j hj], v9, fun j hj => ⟨by rw [(k9 j hj).1, l97, (lowV j hj).1], by rw [(k9 j hj).2, l98, (lowV j hj).2]⟩, fun j hj => ?_⟩
                  have j0 : j = 0 := by omega
                  subst j0
                  rw [← d4]
                  exact o9 0 hj
        · -- the parts first
          refine s_wo2 (n := n) (X := Lk) (s := 0) h h16 lk (Or.inl rfl) p0 pn (fun _ M4 t4 => ?_) (fun z => absurd z (by decide)) (fun z => absurd z (by decide)) (fun z => absurd z (by decide))
          obtain ⟨m4, l4, e4⟩ := t4
          have E4 := h.pile m4
          have K4 := kp99 h.1.2.1 m4
          have nd4 := E4.nod n
          refine (s_bg_parts (X := Lk) E4.2.1 (by omega) b1 (by rw [nd4.1]; omega) (by rw [nd4.2.2.1]; exact b3) (E4.tnn b4.tn) (by omega) l4 (by omega)).mono (fun M5 t5 => ⟨t5.1, ?_⟩)
          obtain ⟨-, m5, l5, e5, x1, xn, v5⟩ := t5
          have E5 := E4.pile m5
          have K5 := kp99 E4.1.2.1 m5
          have cie : ∀ j, ci M4 g (n + 1) j = ci M g (n + 1) j := ci_cg (fun k => (E4.nod k).2.2.2)
          refine ih f (by omega) k (n + 1) e n0 e0 (Lk + 2) V k c M5 hbR hbE (by omega) b4 (by omega) he he0 E5 (by rw [K5.1, K4.1]; exact h16) (by rw [l5]) (fun j hj => ⟨(v5 j hj).1, (v5 j hj).2.trans (cie j)⟩) (by rw [K5.1, K4.1]; exact hV) (by omega) (by omega) (fun M6 h6 => ?_)
          obtain ⟨E6, z16, l6, e6, v6, k6, o6⟩ := h6
          refine s_wo2 (n := n) (X := Lk) (s := 1) E6 z16 l6 (Or.inr (Or.inl rfl)) (by rw [e6 Lk (by omega)]; exact x1) (by rw [e6 (Lk + 1) (by omega)]; exact xn) (fun z => absurd z (by decide)) (fun _ M7 t7 => ?_) (fun z => absurd z (by decide)) (fun z => absurd z (by decide))
          obtain ⟨m7, l7, e7⟩ := t7
          have E7 := E6.pile m7
          have K7 := kp99 E6.1.2.1 m7
          have nd7 := E7.nod n
          refine (s_MM_finish (d := d) (V := V) (k := k) (c := c) (t := u 0) E7.2.1 (by omega) b1 (by rw [nd7.1]; exact b2) (by rw [nd7.1]; omega) (by rw [nd7.2.2.1]; exact b3) (E7.tnn b4.tn) (by omega) (by rw [nd7.1]; exact hty) (fun j hj => by rw [K7.2.1, K7.2.2]; exact o6 j hj) (by rw [K7.1]; exact v6) (by omega)).mono (fun M8 t8 => ⟨t8.1, ?_⟩)
          obtain ⟨-, y1, y2, y3, y4⟩ := t8
          have E8 := E7.step y1 (fun _ z => z.elim) (fun x hx => hx) y2
          have s8 := y1.lst (n99 (a := a)) (fun z => z)
          refine s_wo_f hX E8 (fun z => hQ M8 ?_)
          rcases y4 with y | ⟨w1, w2, w3⟩
          · exact absurd z y
          · refine ⟨E8, z, by rw [s8.1]; exact l7, fun j hj => by rw [s8.2.1, e7, e6 j (by omega), e5 j hj, e4], w2, fun j hj => ⟨by rw [(y3 j hj).1, K7.2.1, (k6 j hj).1, K5.2.1, K4.2.1], by rw [(y3 j hj).2, K7.2.2, (k6 j hj).2, K5.2.2, K4.2.2]⟩, fun j hj => ?_⟩
            have j0 : j = 0 := by omega
            subst j0
            exact w3
    · rw [if_neg c0] at ht
      have kkm : kk = md := by omega
      subst kkm
      by_cases c1 : kk = 1
      · subst c1
        rw [if_pos rfl] at ht
        exact ih f (by omega) 0 n e n0 e0 Lk V 1 u M2 hbR hbE (by omega) ht.2 hn0 he he0 h h16 lk pk hV hVb hLb hQ
      · rw [if_neg c1] at ht
        obtain ⟨m, q1, q2, q3⟩ := ht
        have l1 := q2.tn.lt
        have l2 := q3.tn.ge
        refine ih f (by omega) 0 n m n0 e0 (Lk + 2 * (kk - 1)) V 1 u M2 hbR hbE (by omega) q2 hn0 (by omega) he0 h h16 (by rw [lk]; omega) (fun j hj => ?_) hV (by omega) (by omega) (fun M3 h3 => ?_)
        · have j0 : j = 0 := by omega
          subst j0
          have := pk 0 (by omega)
          rw [show Lk + 2 * (kk - 1) + 2 * (1 - 1 - 0) = Lk + 2 * (kk - 1 - 0) by omega]
          exact this
        · obtain ⟨g1, g2, g3, g4, g5, g6, g7⟩ := h3
          refine ih f (by omega) (kk - 1) m e n0 e0 Lk (V + 1) (kk - 1) (fun j => u (j + 1)) M3 hbR hbE (by omega) q3 (by omega) he he0 g1 g2 g3 (fun j hj => ?_) g5 (by omega) (by omega) (fun M4 h4 => hQ M4 ?_)
          · have := pk (j + 1) (by omega)
            rw [ci_succ q1, show Lk + 2 * (kk - 1 - (j + 1)) = Lk + 2 * (kk - 1 - 1 - j) by omega] at this
            rw [g4 _ (by omega), g4 _ (by omega)]
            exact this
          · obtain ⟨f1, f2, f3, f4, f5, f6, f7⟩ := h4
            refine ⟨f1, f2, f3, fun j hj => by rw [f4 j hj, g4 j (by omega)], by rw [f5]; omega, fun j hj => ⟨by rw [(f6 j (by omega)).1, (g6 j hj).1], by rw [(f6 j (by omega)).2, (g6 j hj).2]⟩, fun j hj => ?_⟩
            cases j with
            | zero =>
              rw [(f6 (V + 0) (by omega)).1, (f6 (V + 0) (by omega)).2]
              exact g7 0 (by omega)
            | succ j =>
              have := f7 j (by omega)
              rw [show V + 1 + j = V + (j + 1) by omega] at this
              exact this
end WR
end
section
/-! The reference: workOut. -/
section WT
variable {G : mG} {F : Prop} {d a g R W T : Nat} {M : mM} {E : Nat → Nat}
/-- a rule has been worked out, or a fault told -/
def wrkQ (F : Prop) (M : mM) (a g R W T : Nat) (t : Int) (M' : mM) : Prop := EO F M a g R W T M' ∧ (mI M' a 16 ≠ 0 ∨ (mI M' a 16 = 0 ∧ vok t (mL M' (a + 97) 0) (mL M' (a + 98) 0)))
theorem s_MM_workOut {b f n e : Nat} {t : Int} (h : Ev F M a g R W T) (hF : F → Fm M g R W T E) (hb : b ≤ R) (hbE : ∀ r : Nat, r < b → mI M (g + 13) r ≠ 0 → E r ≤ n) (ht : Ty (nme F M g b W) (tn M g) M g f 0 n e (fun _ => t)) (he : e ≤ T) : Cv G y_MM_workOut (d + 4) [vr a, vr g, vi n] M (fun M' => mOk M' ∧ wrkQ F M a g R W T t M') := by
  obtain ⟨hO, w, hg, hd, hB, -, -⟩ := id h
  have hlt := ht.tn.lt
  refine k_MM_workOut hO (i32s (by omega) (by omega)) ⟨w.1.1, fun M2 e2 => ?_⟩
  obtain ⟨m2, f2⟩ := mv_fld (v := 0) ⟨by omega, by omega⟩ hO w e2
  have E2 : EO F M a g R W T M2 := (EO.refl h).step m2 (fun _ z => z.elim) (fun x hx => Or.inl hx) (fun i _ _ i3 => by rw [f2, if_neg i3])
  have w2 := m2.2.1
  rw [r24w w2]
  refine ⟨(w2.nu n99).1, fun M5 e5 => ?_⟩
  have b99 : 0 ≤ ln M2 (a + 99) := (w2.nu n99).2.2.2.1.1
  obtain ⟨m5, l5, -, -⟩ := mv_set m2.1 w2 n99 (v := 0) (by omega) b99 e5
  have E5 := E2.pile m5
  have K5 := kp99 w2 m5
  refine (s_MM_todo (d := d + 2) (X := 0) ⟨by omega, by omega⟩ (i32s (by omega) (by omega)) m5.1 m5.2.1 l5 (by omega)).mono (fun M7 t7 => ⟨t7.1, ?_⟩)
  obtain ⟨o7, m7, l7, -, x7, y7⟩ := t7
  have E7 := E5.pile m7
  have K7 := kp99 E5.1.2.1 m7
  have fin : ∀ M3, EO F M a g R W T M3 → mI M3 a 16 ≠ 0 → mOk M3 ∧ wrkQ F M a g R W T t M3 := fun M3 h3 z => ⟨h3.1.1, h3, Or.inl z⟩
  refine s_wo_f fin E7 (fun z => ?_)
  refine s_wo_run h hF fin b f 0 n e n e 0 0 1 (fun _ => t) M7 hb hbE (by omega) ht (Nat.le_refl _) (Nat.le_refl _) he E7 z l7 (fun j hj => ?_) (by rw [K7.1, K5.1, f2, if_pos rfl]; rfl) (by omega) (by omega) (fun M8 h8 => ?_)
  · have j0 : j = 0 := by omega
    subst j0
    exact ⟨x7, y7⟩
  · obtain ⟨E8, z16, l8, -, -, -, o8⟩ := h8
    have w8 := E8.1.2.1
    have l8' : mI M8 (a + 99) 1 = 0 := l8
    refine k_MM_workOut_19 E8.1.1 ?_
    rw [r24w w8, l8']
    exact ⟨w8.1.1, (w8.nu n99).1, fun _ => ⟨E8.1.1, E8, Or.inr ⟨z16, o8 0 (by omega)⟩⟩, fun q => absurd (Or.inl (Int.le_refl _)) q⟩
end WT
end
section
/-! The reference: what is known of a game's rules, variables and commands. -/
section DF
variable {a g R W C Z T R' W' T' : Nat} {M M' : mM} {E E' : Nat → Nat}
/-- n is the root of a rule of type t, whose formulas lie before it -/
def Rt (M : mM) (g R W T : Nat) (E : Nat → Nat) (n t : Int) : Prop := ∃ n' b f e : Nat, n = (n' : Int) ∧ b ≤ R ∧ (∀ r : Nat, r < b → mI M (g + 13) r ≠ 0 → E r ≤ n') ∧ Ty (nme True M g b W) (tn M g) M g f 0 n' e (fun _ => t) ∧ e ≤ T
/-- the constants' values -/
def Cn (M : mM) (g R : Nat) : Prop := ∀ r : Nat, r < R → mI M (g + 13) r = 0 → vok (tn M g r) (mL M (g + 16) r) (mL M (g + 17) r)
/-- the variables' ranges -/
def Vr (M : mM) (g W : Nat) : Prop := ∀ v : Nat, v < W → (mI M (g + 18) v ≠ 0 → mI M (g + 19) v = 0 ∧ mI M (g + 20) v = 1) ∧ mI M (g + 19) v ≤ mI M (g + 21) v ∧ mI M (g + 21) v ≤ mI M (g + 20) v ∧ -1000000000 < mI M (g + 19) v ∧ mI M (g + 20) v < 1000000000 ∧ (mI M (g + 18) v = 0 ∨ mI M (g + 18) v = 1)
/-- a branch -/
def Bc (M : mM) (g R W T : Nat) (E : Nat → Nat) (Z x : Nat) : Prop := Rt M g R W T E (mI M (g + 26) x) 0 ∧ 0 ≤ mI M (g + 28) x ∧ 0 ≤ mI M (g + 29) x ∧ mI M (g + 28) x + mI M (g + 29) x ≤ Z
/-- a command -/
def Cc (M : mM) (g R W T : Nat) (E : Nat → Nat) (Z c : Nat) : Prop := Rt M g R W T E (mI M (g + 24) c) 1 ∧ 0 ≤ mI M (g + 25) c ∧ mI M (g + 25) c ≤ 8 ∧ ∀ b : Nat, (b : Int) < mI M (g + 25) c → Bc M g R W T E Z (8 * c + b)
/-- the sets -/
def Sx (M : mM) (g R W T : Nat) (E : Nat → Nat) (Z : Nat) : Prop := ∀ i : Nat, i < Z → 0 ≤ nt M (g + 30) i ∧ nt M (g + 30) i < W ∧ Rt M g R W T E (nt M (g + 34) i) (tn M g (100 + nt M (g + 30) i))
def Dg (M : mM) (g R W C Z T : Nat) (E : Nat → Nat) (tg : Int) : Prop := (R ≤ 60 ∧ W ≤ 12 ∧ C ≤ 60) ∧ Cn M g R ∧ Fm M g R W T E ∧ Vr M g W ∧ (∀ c : Nat, c < C → Cc M g R W T E Z c) ∧ Sx M g R W T E Z ∧ (tg = -1 ∨ Rt M g R W T E tg 1)
/-- the nodes and the names' types are the same so far -/
def Gn (M : mM) (g R W T : Nat) (M' : mM) : Prop := (∀ n, n < T → so M' g n = so M g n ∧ va M' g n = va M g n ∧ fp M' g n = fp M g n ∧ np M' g n = np M g n) ∧ (∀ r : Nat, r < R → mI M' (g + 13) r = mI M (g + 13) r ∧ mI M' (g + 14) r = mI M (g + 14) r) ∧ (∀ v : Nat, v < W → mI M' (g + 18) v = mI M (g + 18) v)
theorem Gn.tr {r : Nat} (h : Gn M g R W T M') (hR : R ≤ 60) (hr : r < R) : tn M' g r = tn M g r := by
  unfold tn
  rw [if_neg (show ¬ (100 : Int) ≤ (r : Int) by omega), if_neg (show ¬ (100 : Int) ≤ (r : Int) by omega), Int.toNat_natCast, (h.2.1 r hr).2]
theorem Gn.tv {v : Int} (h : Gn M g R W T M') (h1 : 100 ≤ v) (h2 : v < 100 + W) : tn M' g v = tn M g v := by
  unfold tn
  rw [if_pos h1, if_pos h1, h.2.2 _ (by omega)]
theorem Gn.tnm {v : Int} {b : Nat} (h : Gn M g R W T M') (hR : R ≤ 60) (hv : nme True M g b W v) (hb : b ≤ R) : tn M' g v = tn M g v := by
  rcases hv with ⟨h1, h2, -⟩ | ⟨-, h1, h2⟩
  · have := h.tr (r := v.toNat) hR (by omega)
    rw [show ((v.toNat : Nat) : Int) = v by omega] at this
    exact this
  · exact h.tv h1 h2
theorem nme.tt {v : Int} {b : Nat} (h : nme True M g b W v) : nme True M' g b W v := by
  rcases h with ⟨h1, h2, -⟩ | h
  · exact Or.inl ⟨h1, h2, Or.inl trivial⟩
  · exact Or.inr h
theorem nme.wu {v : Int} {b : Nat} (h : nme True M g b W v) (hW : W ≤ W') : nme True M g b W' v := by
  rcases h with ⟨h1, h2, h3⟩ | ⟨-, h1, h2⟩
  · exact Or.inl ⟨h1, h2, Or.inl trivial⟩
  · exact Or.inr ⟨trivial, h1, by omega⟩
theorem Gn.ty {b f n e : Nat} {u : Nat → Int} (h : Gn M g R W T M') (hR : R ≤ 60) (hb : b ≤ R) (he : e ≤ T) (t : Ty (nme True M g b W) (tn M g) M g f 0 n e u) : Ty (nme True M' g b W) (tn M' g) M' g f 0 n e u :=
  (t.mono (nm' := nme True M' g b W) (w' := tn M' g) (fun v hv => ⟨hv.tt, h.tnm hR hv hb⟩)).fr (fun k _ k2 => ⟨(h.1 k (by omega)).1, (h.1 k (by omega)).2.1, (h.1 k (by omega)).2.2.1⟩) (fun k _ k2 => (h.1 k (by omega)).2.2.2) (fun z => absurd rfl z)
theorem Rt.gn {n t : Int} (h : Rt M g R W T E n t) (k : Gn M g R W T M') (hR : R ≤ 60) : Rt M' g R W T E n t := by
  obtain ⟨n', b, f, e, h1, h2, h3, h4, h5⟩ := h
  exact ⟨n', b, f, e, h1, h2, fun r hr z => h3 r hr (by rw [← (k.2.1 r (by omega)).1]; exact z), k.ty hR h2 h5 h4, h5⟩
theorem Rt.up {n t : Int} (h : Rt M g R W T E n t) (hR : R ≤ R') (hW : W ≤ W') (hT : T ≤ T') (hE : ∀ r, r < R → E' r = E r) : Rt M g R' W' T' E' n t := by
  obtain ⟨n', b, f, e, h1, h2, h3, h4, h5⟩ := h
  exact ⟨n', b, f, e, h1, by omega, fun r hr z => by rw [hE r (by omega)]; exact h3 r hr z, h4.mono (fun v hv => ⟨hv.wu hW, rfl⟩), by omega⟩
theorem Fm.gn (h : Fm M g R W T E) (k : Gn M g R W T M') (hR : R ≤ 60) (h15 : ∀ r : Nat, r < R → mI M' (g + 15) r = mI M (g + 15) r) : Fm M' g R W T E := by
  intro r hr z
  rw [(k.2.1 r hr).1] at z
  obtain ⟨n, f, h1, h2, h3, h4⟩ := h r hr z
  refine ⟨n, f, by rw [h15 r hr]; exact h1, h2, fun r' hr' z' => h3 r' hr' (by rw [← (k.2.1 r' (by omega)).1]; exact z'), ?_⟩
  rw [k.tr hR hr]
  exact k.ty hR (by omega) h2 h4
theorem Fm.up (h : Fm M g R W T E) (hW : W ≤ W') (hT : T ≤ T') (hE : ∀ r, r < R → E' r = E r) : Fm M g R W' T' E' := by
  intro r hr z
  obtain ⟨n, f, h1, h2, h3, h4⟩ := h r hr z
  refine ⟨n, f, h1, by rw [hE r hr]; omega, fun r' hr' z' => by rw [hE r' (by omega)]; exact h3 r' hr' z', ?_⟩
  rw [hE r hr]
  exact h4.mono (fun v hv => ⟨hv.wu hW, rfl⟩)
/-- the draft so far is the same -/
def Ge (M : mM) (g R W C Z T : Nat) (M' : mM) : Prop := Gn M g R W T M' ∧ (∀ r : Nat, r < R → mI M' (g + 15) r = mI M (g + 15) r ∧ mL M' (g + 16) r = mL M (g + 16) r ∧ mL M' (g + 17) r = mL M (g + 17) r) ∧ (∀ v : Nat, v < W → mI M' (g + 19) v = mI M (g + 19) v ∧ mI M' (g + 20) v = mI M (g + 20) v ∧ mI M' (g + 21) v = mI M (g + 21) v) ∧ (∀ c : Nat, c < C → mI M' (g + 24) c = mI M (g + 24) c ∧ mI M' (g + 25) c = mI M (g + 25) c ∧ ∀ b : Nat, b < 8 → mI M' (g + 26) (8 * c + b) = mI M (g + 26) (8 * c + b) ∧ mI M' (g + 28) (8 * c + b) = mI M (g + 28) (8 * c + b) ∧ mI M' (g + 29) (8 * c + b) = mI M (g + 29) (8 * c + b)) ∧ ∀ i : Nat, i < Z → nt M' (g + 30) i = nt M (g + 30) i ∧ nt M' (g + 34) i = nt M (g + 34) i
theorem Bc.gn {x : Nat} (h : Bc M g R W T E Z x) (k : Gn M g R W T M') (hR : R ≤ 60) (e : mI M' (g + 26) x = mI M (g + 26) x ∧ mI M' (g + 28) x = mI M (g + 28) x ∧ mI M' (g + 29) x = mI M (g + 29) x) : Bc M' g R W T E Z x := by
  unfold Bc at h ⊢
  rw [e.1, e.2.1, e.2.2]
  exact ⟨h.1.gn k hR, h.2⟩
theorem Cc.gn {c : Nat} (h : Cc M g R W T E Z c) (k : Gn M g R W T M') (hR : R ≤ 60) (e : mI M' (g + 24) c = mI M (g + 24) c ∧ mI M' (g + 25) c = mI M (g + 25) c ∧ ∀ b : Nat, b < 8 → mI M' (g + 26) (8 * c + b) = mI M (g + 26) (8 * c + b) ∧ mI M' (g + 28) (8 * c + b) = mI M (g + 28) (8 * c + b) ∧ mI M' (g + 29) (8 * c + b) = mI M (g + 29) (8 * c + b)) : Cc M' g R W T E Z c := by
  unfold Cc at h ⊢
  rw [e.1, e.2.1]
  obtain ⟨h1, h2, h3, h4⟩ := h
  exact ⟨h1.gn k hR, h2, h3, fun b hb => (h4 b hb).gn k hR (e.2.2 b (by omega))⟩
theorem Bc.up {x Z' : Nat} (h : Bc M g R W T E Z x) (hR : R ≤ R') (hW : W ≤ W') (hT : T ≤ T') (hZ : Z ≤ Z') (hE : ∀ r, r < R → E' r = E r) : Bc M g R' W' T' E' Z' x := by
  obtain ⟨h1, h2, h3, h4⟩ := h
  exact ⟨h1.up hR hW hT hE, h2, h3, by omega⟩
theorem Cc.up {c Z' : Nat} (h : Cc M g R W T E Z c) (hR : R ≤ R') (hW : W ≤ W') (hT : T ≤ T') (hZ : Z ≤ Z') (hE : ∀ r, r < R → E' r = E r) : Cc M g R' W' T' E' Z' c := by
  obtain ⟨h1, h2, h3, h4⟩ := h
  exact ⟨h1.up hR hW hT hE, h2, h3, fun b hb => (h4 b hb).up hR hW hT hZ hE⟩
theorem Dg.ge {tg : Int} (h : Dg M g R W C Z T E tg) (k : Ge M g R W C Z T M') : Dg M' g R W C Z T E tg := by
  obtain ⟨hB, h1, h2, h3, h4, h5, h6⟩ := h
  obtain ⟨kn, k1, k2, k3, k4⟩ := k
  refine ⟨hB, fun r hr z => ?_, h2.gn kn hB.1 (fun r hr => (k1 r hr).1), fun v hv => ?_, fun c hc => (h4 c hc).gn kn hB.1 (k3 c hc), fun i hi => ?_, h6.imp (fun z => z) (fun z => z.gn kn hB.1)⟩
  · rw [(kn.2.1 r hr).1] at z
    rw [kn.tr hB.1 hr, (k1 r hr).2.1, (k1 r hr).2.2]
    exact h1 r hr z
  · rw [kn.2.2 v hv, (k2 v hv).1, (k2 v hv).2.1, (k2 v hv).2.2]
    exact h3 v hv
  · obtain ⟨s1, s2, s3⟩ := h5 i hi
    rw [(k4 i hi).1, (k4 i hi).2]
    refine ⟨s1, s2, ?_⟩
    rw [kn.tv (by omega) (by omega)]
    exact s3.gn kn hB.1
/-- more nodes -/
theorem Dg.tu {tg : Int} (h : Dg M g R W C Z T E tg) (hT : T ≤ T') : Dg M g R W C Z T' E tg := by
  obtain ⟨hB, h1, h2, h3, h4, h5, h6⟩ := h
  have r0 := Nat.le_refl R
  have w0 := Nat.le_refl W
  have hE : ∀ r, r < R → E r = E r := fun _ _ => rfl
  exact ⟨hB, h1, h2.up w0 hT hE, h3, fun c hc => (h4 c hc).up r0 w0 hT (Nat.le_refl Z) hE, fun i hi => ⟨(h5 i hi).1, (h5 i hi).2.1, (h5 i hi).2.2.up r0 w0 hT hE⟩, h6.imp (fun z => z) (fun z => z.up r0 w0 hT hE)⟩
/-- one more rule -/
theorem Dg.ru {tg : Int} (h : Dg M g R W C Z T E tg) (hR : R < 60) (hE : ∀ r, r < R → E' r = E r) (hc : mI M (g + 13) R = 0 → vok (tn M g R) (mL M (g + 16) R) (mL M (g + 17) R)) (hf : mI M (g + 13) R ≠ 0 → ∃ n f : Nat, mI M (g + 15) R = (n : Int) ∧ E' R ≤ T ∧ (∀ r' : Nat, r' < R → mI M (g + 13) r' ≠ 0 → E' r' ≤ n) ∧ Ty (nme True M g R W) (tn M g) M g f 0 n (E' R) (fun _ => tn M g R)) : Dg M g (R + 1) W C Z T E' tg := by
  obtain ⟨hB, h1, h2, h3, h4, h5, h6⟩ := h
  have r0 := Nat.le_succ R
  have w0 := Nat.le_refl W
  have t0 := Nat.le_refl T
  have f2 := h2.up w0 t0 hE
  refine ⟨⟨by omega, hB.2⟩, fun r hr z => ?_, fun r hr z => ?_, h3, fun c hc => (h4 c hc).up r0 w0 t0 (Nat.le_refl Z) hE, fun i hi => ⟨(h5 i hi).1, (h5 i hi).2.1, (h5 i hi).2.2.up r0 w0 t0 hE⟩, h6.imp (fun z => z) (fun z => z.up r0 w0 t0 hE)⟩
  · by_cases y : r = R
    · rw [y] at z ⊢; exact hc z
    · exact h1 r (by omega) z
  · by_cases y : r = R
    · rw [y] at z ⊢; exact hf z
    · exact f2 r (by omega) z
/-- one more variable -/
theorem Dg.vu {tg : Int} (h : Dg M g R W C Z T E tg) (hW : W < 12) (hv : (mI M (g + 18) W ≠ 0 → mI M (g + 19) W = 0 ∧ mI M (g + 20) W = 1) ∧ mI M (g + 19) W ≤ mI M (g + 21) W ∧ mI M (g + 21) W ≤ mI M (g + 20) W ∧ -1000000000 < mI M (g + 19) W ∧ mI M (g + 20) W < 1000000000 ∧ (mI M (g + 18) W = 0 ∨ mI M (g + 18) W = 1)) : Dg M g R (W + 1) C Z T E tg := by
  obtain ⟨hB, h1, h2, h3, h4, h5, h6⟩ := h
  have r0 := Nat.le_refl R
  have w0 := Nat.le_succ W
  have t0 := Nat.le_refl T
  have hE : ∀ r, r < R → E r = E r := fun _ _ => rfl
  refine ⟨⟨hB.1, by omega, hB.2.2⟩, h1, h2.up w0 t0 hE, fun v hv' => ?_, fun c hc => (h4 c hc).up r0 w0 t0 (Nat.le_refl Z) hE, fun i hi => ⟨(h5 i hi).1, by have := (h5 i hi).2.1; omega, (h5 i hi).2.2.up r0 w0 t0 hE⟩, h6.imp (fun z => z) (fun z => z.up r0 w0 t0 hE)⟩
  by_cases y : v = W
  · rw [y]; exact hv
  · exact h3 v (by omega)
/-- one more command -/
theorem Dg.cu {tg : Int} (h : Dg M g R W C Z T E tg) (hC : C < 60) (hc : Cc M g R W T E Z C) : Dg M g R W (C + 1) Z T E tg := by
  obtain ⟨hB, h1, h2, h3, h4, h5, h6⟩ := h
  refine ⟨⟨hB.1, hB.2.1, by omega⟩, h1, h2, h3, fun c hc' => ?_, h5, h6⟩
  by_cases y : c = C
  · rw [y]; exact hc
  · exact h4 c (by omega)
/-- one more set -/
theorem Dg.zu {tg : Int} (h : Dg M g R W C Z T E tg) (hs : 0 ≤ nt M (g + 30) Z ∧ nt M (g + 30) Z < W ∧ Rt M g R W T E (nt M (g + 34) Z) (tn M g (100 + nt M (g + 30) Z))) : Dg M g R W C (Z + 1) T E tg := by
  obtain ⟨hB, h1, h2, h3, h4, h5, h6⟩ := h
  have hE : ∀ r, r < R → E r = E r := fun _ _ => rfl
  refine ⟨hB, h1, h2, h3, fun c hc => (h4 c hc).up (Nat.le_refl _) (Nat.le_refl _) (Nat.le_refl _) (Nat.le_succ Z) hE, fun i hi => ?_, h6⟩
  by_cases y : i = Z
  · rw [y]; exact hs
  · exact h5 i (by omega)
theorem Dg.tgu {tg tg' : Int} (h : Dg M g R W C Z T E tg) (ht : tg' = -1 ∨ Rt M g R W T E tg' 1) : Dg M g R W C Z T E tg' :=
  ⟨h.1, h.2.1, h.2.2.1, h.2.2.2.1, h.2.2.2.2.1, h.2.2.2.2.2.1, ht⟩
end DF
end
