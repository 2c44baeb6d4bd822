/-! The class's words, exactly: split. -/
/-- the class's n words -/
def spx (kw : (Nat → Int) → Nat → Nat → Int) (c : Nat → Int) (N : Nat) (M : mM) (A B D n : Nat) : Prop := (∀ i, i < n → pwq c N i < N ∧ wdx kw c N (mI M A i) (mI M B i) (mI M D i) (pwq c N i)) ∧ (∀ i, i + 1 < n → wkq (kw c) c N (pwq c N i) ≠ 39) ∧ ((pwq c N n = N ∧ ∀ i, i < n → wkq (kw c) c N (pwq c N i) ≠ 39) ∨ (1 ≤ n ∧ wkq (kw c) c N (pwq c N (n - 1)) = 39))
/-- k words have been taken, at place j -/
def spI (kw : (Nat → Int) → Nat → Nat → Int) (c : Nat → Int) (N : Nat) (M : mM) (A B D k j : Nat) : Prop := (∀ i, i < k → pwq c N i < N ∧ wdx kw c N (mI M A i) (mI M B i) (mI M D i) (pwq c N i)) ∧ (∀ i, i + 1 < k → wkq (kw c) c N (pwq c N i) ≠ 39) ∧ ((j = pwq c N k ∧ ∀ i, i < k → wkq (kw c) c N (pwq c N i) ≠ 39) ∨ (j = N ∧ 1 ≤ k ∧ wkq (kw c) c N (pwq c N (k - 1)) = 39))
section WXC
variable {G : mG} {d w T A B D N C k n j : Nat} {M M' M1 M2 M3 : mM} {kw : (Nat → Int) → Nat → Nat → Int} {c : Nat → Int}
theorem spI.fin (h : spI kw c N M A B D k j) (hj : j = N) (eA : ∀ i, i < k → mI M' A i = mI M A i) (eB : ∀ i, i < k → mI M' B i = mI M B i) (eD : ∀ i, i < k → mI M' D i = mI M D i) : spx kw c N M' A B D k := by
  obtain ⟨h1, h2, h3⟩ := h
  refine ⟨fun i hi => ?_, h2, ?_⟩
  · rw [eA i hi, eB i hi, eD i hi]; exact h1 i hi
  · rcases h3 with ⟨h3, h4⟩ | ⟨-, h4, h5⟩
    · exact Or.inl ⟨by rw [← h3]; exact hj, h4⟩
    · exact Or.inr ⟨h4, h5⟩
theorem spI.step {s am : Int} {r r' : Nat} (h : spI kw c N M A B D k j) (hj : j < N) (hw : wdx kw c N s j am j) (eA : ∀ i, mI M' A i = if i = k then s else mI M A i) (eB : ∀ i, mI M' B i = if i = k then (j : Int) else mI M B i) (eD : ∀ i, mI M' D i = if i = k then am else mI M D i) (h39 : wkq (kw c) c N j = 39 → r = N) (hn : wkq (kw c) c N j ≠ 39 → r = weq c N j) (hr : r' = skp c N r) : spI kw c N M' A B D (k + 1) r' := by
  obtain ⟨h1, h2, h3⟩ := h
  rcases h3 with ⟨h3, h4⟩ | ⟨h3, -⟩
  · subst h3
    refine ⟨fun i hi => ?_, fun i hi => h4 i (by omega), ?_⟩
    · rw [eA, eB, eD]
      by_cases y : i = k
      · rw [if_pos y, if_pos y, if_pos y, y]; exact ⟨hj, hw⟩
      · rw [if_neg y, if_neg y, if_neg y]; exact h1 i (by omega)
    · by_cases y : wkq (kw c) c N (pwq c N k) = 39
      · right
        have e := h39 y
        subst e
        refine ⟨by rw [hr]; unfold skp; rw [Nat.sub_self]; rfl, by omega, ?_⟩
        rw [show k + 1 - 1 = k by omega]; exact y
      · left
        refine ⟨by rw [hr, hn y]; rfl, fun i hi => ?_⟩
        by_cases z : i = k
        · rw [z]; exact y
        · exact h4 i (by omega)
  · omega
theorem x_Wo_takeWord {p : Nat} (hNS : NSx G kw) (hO : mOk M) (h : WA M w T A B D N C) (hi : WI M w A B D N k) (hkN : k < N) (hC2 : C ≤ 16777216) (hp : p < N) : Ci G y_Wo_takeWord (d + 7) [vr w, vi p] M (twX kw M w T A B D N C k p) := by
  obtain ⟨h1, ⟨p0, p3, p4, p5⟩, ⟨kT, nT⟩, -, -, h6, h7, h8, -⟩ := id h
  refine k_Wo_takeWord hO (i32s (by omega) (by omega)) ?_
  rw [p0, Int.toNat_natCast]
  have fin : ∀ {s : Int} {j : Nat}, ¬ isL (mI M T p) → ¬ isDq (mI M T p) → p < j → (s = 1 ∨ j ≤ N) → 1 ≤ s → s ≤ 39 → s ≠ 2 → s ≠ 3 → j ≤ N + 2 → s = csq (sgk (mI M T p) (lq (mI M T) N (p + 1))) → weq (mI M T) N p = j → h_Wo_takeWord_86 G (d + 6) w p s j M (twX kw M w T A B D N C k p) := fun {s j} nl nd hj hjN s1 s2 s3 s4 j2 es ew => by
    refine k_Wo_takeWord_86 hO (i32s (by omega) (by omega)) (i32s (by omega) (by omega)) (i32s (by omega) (by omega)) ⟨h1, ?_⟩
    refine (x_Wo_add2 (i32s (by omega) (by omega)) (i32s (by omega) (by omega)) (i32s (by omega) (by omega)) hO h hi hkN hC2 ⟨⟨s1, s2⟩, by omega, by omega, by omega⟩).mono (fun M16 q => ?_)
    obtain ⟨⟨o, f, h', i'⟩, eA, eB, eD⟩ := q
    have hwk := wkq_sg (n := N) (k1 := kw (mI M T)) nl nd
    have c1 : s = 1 ↔ wkq (kw (mI M T)) (mI M T) N p = 39 := by
      rw [hwk, es]
      generalize sgk (mI M T p) (lq (mI M T) N (p + 1)) = y at *
      have hy : s = csq y := es
      clear es
      constructor
      · intro q
        unfold csq at q
        (repeat' split at q) <;> omega
      · intro q; rw [q]; decide
    refine ⟨o, fun _ => h'.1, fun v21 e21 => ⟨⟨o, f, h', i', ?_⟩, ⟨s, 0, ⟨by rw [hwk]; exact es, rfl, fun q => absurd q nl, fun q => absurd q nd⟩, eA, eB, eD⟩, fun q => ?_, fun q => ?_⟩⟩
    · by_cases y : s = 1
      · rw [if_pos y, h'.2.2.2.2.2.1] at e21
        exact ⟨N, e21, by omega, Nat.le_refl _⟩
      · rw [if_neg y] at e21
        exact ⟨j, e21, hj, by omega⟩
    · rw [if_pos (c1.mpr q), h'.2.2.2.2.2.1] at e21
      exact e21
    · rw [if_neg (fun z => q (c1.mp z))] at e21
      rw [ew]; exact e21
  refine ⟨h1, kT, by omega, (x_Wo_isLetter hO (hO _ _).1).mono (fun x M2 q => ?_)⟩
  obtain ⟨e2, hx, hxl⟩ := q
  subst e2
  refine ⟨i32s (by omega) (by omega), hO, fun x0 => (s_Wo_isDigit hO (hO _ _).1).mono (fun x' M3 q => ?_), fun x0 => ⟨h1, (x_Wo_takeName hNS hO h hi hkN hC2 hp (hxl.mp x0)).mono (fun r M4 q => ?_)⟩⟩
  · obtain ⟨e3, hx', ex⟩ := q
    subst e3
    have nl : ¬ isL (mI M3 T p) := fun q => hxl.mpr q x0
    refine ⟨i32s (by omega) (by omega), hO, fun y0 => ?_, fun y0 => ⟨h1, (x_Wo_takeNumber (kw := kw) hO h hi hkN hC2 hp (ex.1 y0)).mono (fun r M4 q => ?_)⟩⟩
    · have nd : ¬ isDq (mI M3 T p) := fun q => ex.2 q y0
      clear ex hxl
      rw [p0]
      refine ⟨h1, i32s (by omega) (by omega), fun _ => ⟨kT, by omega⟩, fun v22 e22 => ?_⟩
      have i22 : i32 v22 := by
        rw [e22]
        split
        · exact ⟨by decide, by decide⟩
        · exact (hO _ _).1
      have nxt : v22 = lq (mI M3 T) N (p + 1) ∨ (v22 = 32 ∧ lq (mI M3 T) N (p + 1) = 0) := by
        unfold lq
        by_cases y : p + 1 < N
        · rw [if_pos y]
          rw [if_neg (by omega), show ((p : Int) + 1).toNat = p + 1 by omega] at e22
          exact Or.inl e22
        · rw [if_neg y]
          rw [if_pos (by omega)] at e22
          exact Or.inr ⟨e22, rfl⟩
      have two := sgn_two (x := mI M3 T p) nxt
      have hwe := weq_sg (n := N) nl nd
      refine (x_Wo_longSign hO (hO _ _).1 i22).mono (fun s M4 q => ?_)
      obtain ⟨e4, hs, es⟩ := q
      subst e4
      refine ⟨i32s (by omega) (by omega), hO, fun s1 => (x_Wo_shortSign hO (hO _ _).1).mono (fun s' M5 q => ?_), fun s1 => ?_⟩
      · obtain ⟨e5, ⟨b1, b2, b3, b4⟩, es'⟩ := q
        subst e5
        obtain ⟨t1, t2⟩ := two.2 (by rw [← es]; exact s1)
        rw [if_neg t2] at hwe
        exact ⟨i32s (by omega) (by omega), hO, fin (j := p + 1) nl nd (by omega) (Or.inr (by omega)) b1 b2 b3 b4 (by omega) (by rw [t1]; exact es') hwe⟩
      · obtain ⟨t1, t2⟩ := two.1 (by rw [← es]; exact s1)
        rw [if_pos t2] at hwe
        have pN : p + 2 ≤ N := by
          have := (weq_b (c := mI M4 T) hp).2
          omega
        clear two t2
        exact fin (j := p + 2) nl nd (by omega) (Or.inr pN) (by omega) (by omega) (by omega) (by omega) (by omega) (by rw [t1]; exact es) hwe
    · obtain ⟨⟨o, f, h', i', j, ej, j1, j2⟩, -⟩ := id q
      exact ⟨i32s (by omega) (by omega), o, q⟩
  · obtain ⟨⟨o, f, h', i', j, ej, j1, j2⟩, -⟩ := id q
    exact ⟨i32s (by omega) (by omega), o, q⟩
theorem x_Wo_split (hNS : NSx G kw) (hO : mOk M) (h : WB M w A B D C) (kT : mK M T = 32) (nT : N ≤ mN M T) (hN : N ≤ 16384) (zT : T < mZ M) : Cv G y_Wo_split (d + 8) [vr w, vr T, vi N] M (fun M' => ∃ A' B' D' C' n, mOk M' ∧ Wf M' w T A' B' D' N C' n ∧ WB M' w A' B' D' C' ∧ C' ≤ C + 2 * (N + 2) ∧ FA (woA w A B D) (fun x => x = w) M M' ∧ grw M A B D C M' A' B' D' C' ∧ spx kw (mI M T) N M' A' B' D' n) := by
  have nw : T ≠ w := fun e => by have := h.1; rw [← e, kT] at this; omega
  have z0 := h.2.2.2.2.2.1
  refine k_Wo_split hO (i32s (by omega) (by omega)) ⟨h.1, fun M2 e2 M4 e4 M6 e6 => ?_⟩
  have hw3 : ∀ i, i ≠ 0 → mR M6 w i = mR M w i := fun i hi => by rw [e6, mR_UI, e4, mR_UI, e2, mR_UR, if_neg (fun z => hi z.2)]
  have K6 : mK M6 = mK M := by rw [e6, e4, e2]; rfl
  have N6 : mN M6 = mN M := by rw [e6, e4, e2]; rfl
  have Z6 : mZ M6 = mZ M := by rw [e6, e4, e2]; rfl
  have S6 : mS M6 = mS M := by rw [e6, e4, e2]; rfl
  have T6 : mR M6 w 0 = T := by rw [e6, mR_UI, e4, mR_UI, e2, mR_UR, if_pos ⟨rfl, rfl⟩]
  have i1 : mI M6 w 1 = N := by rw [e6, mI_UI, if_neg (fun z => absurd z.2 (by decide)), e4, mI_UI, if_pos ⟨rfl, rfl⟩]
  have i2 : mI M6 w 2 = 0 := by rw [e6, mI_UI, if_pos ⟨rfl, rfl⟩]
  have o2 : mOk M2 := by rw [e2]; exact mOk_UR hO
  have o4 : mOk M4 := by rw [e4]; exact mOk_UI o2 (i32s (by omega) (by omega))
  have o6 : mOk M6 := by rw [e6]; exact mOk_UI o4 (i32s (by omega) (by omega))
  have B6 : WB M6 w A B D C := by
    unfold WB at h ⊢
    rw [K6, N6, Z6, hw3 3 (by decide), hw3 4 (by decide), hw3 5 (by decide)]
    exact h
  have g2 : FA (woA w A B D) (fun x => x = w) M M2 := FA.ur rfl e2
  have g4 : FA (woA w A B D) (fun x => x = w) M2 M4 := FI.fa (by rw [e4]; exact FI.ui (Or.inl rfl))
  have g6' : FA (woA w A B D) (fun x => x = w) M4 M6 := FI.fa (by rw [e6]; exact FI.ui (Or.inl rfl))
  have g6 := (g2.trans g4).trans g6'
  have t6 := s_Wo_reserve (G := G) (d := d + 7) (q := N + 2) o6 B6 (by omega)
  rw [show ((N + 2 : Nat) : Int) = (N : Int) + 2 by omega] at t6
  rw [i1]
  refine t6.mono (fun M8 q => ?_)
  obtain ⟨A', B', D', C', o8, B8, q1, q2, g8, r8, gr⟩ := q
  have w6 : w < mZ M6 := by omega
  have c8 := g8.2 w w6
  have cT := g8.2 T (by omega)
  have h8 : WA M8 w T A' B' D' N C' := B8.wa (by rw [r8 0 (by decide) (by decide) (by decide)]; exact T6) (by rw [cT.1, K6]; exact kT) (by rw [cT.2.1, N6]; exact nT) (by rw [c8.2.2.2.2 (fun z => z)]; exact i1) hN (by omega)
  have w8 : WI M8 w A' B' D' N 0 := ⟨by rw [c8.2.2.2.2 (fun z => z)]; exact i2, fun i hi => absurd hi (by omega)⟩
  have C2 : C' ≤ 16777216 := by have := B8.2.2.2.2.2.2; omega
  have G8 : FA (woA w A B D) (fun x => x = w) M M8 := g6.trans2 g8 (fun _ _ z => z.elim) (fun _ _ z => z)
  have gr0 : grw M A B D C M8 A' B' D' C' := by
    unfold grw at gr ⊢
    rw [Z6, S6] at gr
    exact gr
  have TA : T ≠ A ∧ T ≠ B ∧ T ≠ D := by
    obtain ⟨-, -, ⟨a1, a2, a3⟩, -⟩ := h
    refine ⟨fun e => ?_, fun e => ?_, fun e => ?_⟩ <;> rw [e] at kT <;> omega
  have T8 : mI M8 T = mI M T := (G8.2 T zT).2.2.2.2 (fun z => by
    have z' : T = w ∨ T = A ∨ T = B ∨ T = D := z
    omega)
  have TA8 := h8.ne.2.2.2
  -- later steps
  have fin : ∀ {M9 : mM} {n : Nat}, mOk M9 → FI (woA w A' B' D') M8 M9 → Wf M9 w T A' B' D' N C' n → spx kw (mI M T) N M9 A' B' D' n → ∃ A' B' D' C' n, mOk M9 ∧ Wf M9 w T A' B' D' N C' n ∧ WB M9 w A' B' D' C' ∧ C' ≤ C + 2 * (N + 2) ∧ FA (woA w A B D) (fun x => x = w) M M9 ∧ grw M A B D C M9 A' B' D' C' ∧ spx kw (mI M T) N M9 A' B' D' n := fun {M9 n} o f hf hsp => by
    refine ⟨A', B', D', C', n, o, hf, B8.fi f, by omega, G8.trans2 (FI.fa (R := fun x => x = w) f) (fun x hx z => ?_) (fun _ _ z => z), ?_, hsp⟩
    · rcases gr0 with ⟨y1, y2, y3, -⟩ | ⟨y1, y2, y3, -⟩
      · rw [y1, y2, y3] at z
        exact z
      · have z' : x = w ∨ x = A' ∨ x = B' ∨ x = D' := z
        exact Or.inl (by omega)
    · unfold grw at gr0 ⊢
      rw [f.2.2.2.2.1, f.2.2.2.2.2.1]
      exact gr0
  refine ⟨o8, B8.1, (x_Wo_afterBlanks (q := 0) o8 h8 (by omega)).mono (fun x M9 q => ?_)⟩
  obtain ⟨e9, ex⟩ := q
  subst e9
  rw [T8] at ex
  have j0 := skp_b (c := mI M T) (n := N) (i := 0) (by omega)
  have ej : pwq (mI M T) N 0 = skp (mI M T) N 0 := rfl
  generalize skp (mI M T) N 0 = j at *
  have jN : j ≤ N := j0.2
  subst ex
  refine ⟨i32s (by omega) (by omega), o8, ?_⟩
  suffices H : ∀ (t k j : Nat) (M2 : mM), N ≤ j + t → k ≤ j → j ≤ N → mOk M2 → FI (woA w A' B' D') M9 M2 → WA M2 w T A' B' D' N C' → WI M2 w A' B' D' N k → spI kw (mI M T) N M2 A' B' D' k j → h_Wo_split_34 G (d + 7) w j k M2 (fun M' => ∃ A' B' D' C' n, mOk M' ∧ Wf M' w T A' B' D' N C' n ∧ WB M' w A' B' D' C' ∧ C' ≤ C + 2 * (N + 2) ∧ FA (woA w A B D) (fun x => x = w) M M' ∧ grw M A B D C M' A' B' D' C' ∧ spx kw (mI M T) N M' A' B' D' n) from H N 0 j M9 (by omega) (by omega) jN o8 FI.refl h8 w8 ⟨fun i hi => absurd hi (by omega), fun i hi => absurd hi (by omega), Or.inl ⟨ej.symm, fun i hi => absurd hi (by omega)⟩⟩
  intro t
  induction t with
  | zero =>
    intro k j M2 hj hkj hjN o f hA hI hS
    refine k_Wo_split_34 o (i32s (by omega) (by omega)) (i32s (by omega) (by omega)) ⟨hA.1, fun _ => ?_, fun y => absurd (Or.inr (by rw [hA.2.2.2.2.2.1]; omega)) y⟩
    rw [hA.2.2.2.2.2.1]
    refine (s_Wo_add (i32s (by omega) (by omega)) (i32s (by omega) (by omega)) (i32s (by omega) (by omega)) o hA hI.1 (by omega) C2).mono (fun M3 q => ?_)
    obtain ⟨o3, f3, A3, e3, eA, eB, eD⟩ := q
    refine ⟨o3, fin (n := k) o3 (f.trans f3) ⟨A3, e3, by omega, fun i hi => ?_, by rw [eA, if_pos rfl], by rw [eB, if_pos rfl]⟩ (hS.fin (by omega) (fun i hi => by rw [eA, if_neg (Nat.ne_of_lt hi)]) (fun i hi => by rw [eB, if_neg (Nat.ne_of_lt hi)]) (fun i hi => by rw [eD, if_neg (Nat.ne_of_lt hi)]))⟩
    rw [eA, eB, eD, if_neg (by omega), if_neg (by omega), if_neg (by omega)]
    exact hI.2 i hi
  | succ t ih =>
    intro k j M2 hj hkj hjN o f hA hI hS
    have e1 := hA.2.2.2.2.2.1
    refine k_Wo_split_34 o (i32s (by omega) (by omega)) (i32s (by omega) (by omega)) ⟨hA.1, fun yj => ?_, fun y => ?_⟩
    · rw [e1]
      refine (s_Wo_add (i32s (by omega) (by omega)) (i32s (by omega) (by omega)) (i32s (by omega) (by omega)) o hA hI.1 (by omega) C2).mono (fun M3 q => ?_)
      obtain ⟨o3, f3, A3, e3, eA, eB, eD⟩ := q
      refine ⟨o3, fin (n := k) o3 (f.trans f3) ⟨A3, e3, by omega, fun i hi => ?_, by rw [eA, if_pos rfl], by rw [eB, if_pos rfl]⟩ (hS.fin (by omega) (fun i hi => by rw [eA, if_neg (Nat.ne_of_lt hi)]) (fun i hi => by rw [eB, if_neg (Nat.ne_of_lt hi)]) (fun i hi => by rw [eD, if_neg (Nat.ne_of_lt hi)]))⟩
      rw [eA, eB, eD, if_neg (by omega), if_neg (by omega), if_neg (by omega)]
      exact hI.2 i hi
    · have jN' : j < N ∧ k < N := by
        constructor
        · exact Nat.lt_of_not_le (fun z => y (Or.inr (by omega)))
        · exact Nat.lt_of_not_le (fun z => y (Or.inl (by omega)))
      refine (x_Wo_takeWord hNS o hA hI jN'.2 C2 jN'.1).mono (fun r M3 q => ?_)
      obtain ⟨⟨o3, f3, A3, I3, j3, ej3, l3, u3⟩, ⟨s9, am9, q1', eA, eB, eD⟩, q39, qn⟩ := q
      subst ej3
      have T2 : mI M2 T = mI M T := by
        rw [← T8]
        exact f.2.2.2.2.2.2 T (fun z => by
          have z' : T = w ∨ T = A' ∨ T = B' ∨ T = D' := z
          omega)
      have T3 : mI M3 T = mI M T := by
        rw [← T2]
        exact f3.2.2.2.2.2.2 T (fun z => by
          have z' : T = w ∨ T = A' ∨ T = B' ∨ T = D' := z
          omega)
      rw [T2] at q1' q39 qn
      refine ⟨i32s (by omega) (by omega), o3, A3.1, (x_Wo_afterBlanks (q := j3) o3 A3 u3).mono (fun r M4 q => ?_)⟩
      obtain ⟨e4, ex4⟩ := q
      subst e4
      rw [T3] at ex4
      have b4 := skp_b (c := mI M T) u3
      have S4 := hS.step (r := j3) jN'.1 q1' eA eB eD (fun z => Int.ofNat_inj.mp (q39 z)) (fun z => Int.ofNat_inj.mp (qn z)) rfl
      clear q39 qn q1' eA eB eD
      generalize skp (mI M T) N j3 = j4 at *
      obtain ⟨l4, u4⟩ := b4
      subst ex4
      refine ⟨i32s (by omega) (by omega), o3, ?_⟩
      have := ih (k + 1) j4 M4 (by omega) (by omega) u4 o3 (f.trans f3) A3 I3 S4
      rw [show ((k + 1 : Nat) : Int) = (k : Int) + 1 by omega] at this
      exact this
end WXC
