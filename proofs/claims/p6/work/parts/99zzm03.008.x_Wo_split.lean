section
section
variable {G : mG} {d w T A B D N C k n j : Nat} {M M' M1 M2 M3 : mM} {kw : (Nat → Int) → Nat → Nat → Int} {c : Nat → Int}
theorem x_Wo_split (hNS : NSx G kw) (hO : mOk M) (h : WB M w A B D C) (kT : mK M T = 32) (nT : N ≤ mN M T) (hN : N ≤ 16384) (zT : T < mZ M) : Cv G y_Wo_split (d + 8) [vr w, vr T, vi N] M (fun M' => ∃ A' B' D' C' n, mOk M' ∧ Wf M' w T A' B' D' N C' n ∧ WB M' w A' B' D' C' ∧ C' ≤ C + 2 * (N + 2) ∧ FA (woA w A B D) (fun x => x = w) M M' ∧ grw M A B D C M' A' B' D' C' ∧ spx kw (mI M T) N M' A' B' D' n) := by
  have nw : T ≠ w := fun e => by have := h.1; rw [← e, kT] at this; omega
  have z0 := h.2.2.2.2.2.1
  refine k_Wo_split hO (i32s (by omega) (by omega)) ⟨h.1, fun M2 e2 M4 e4 M6 e6 => ?_⟩
  have hw3 : ∀ i, i ≠ 0 → mR M6 w i = mR M w i := fun i hi => by rw [e6, mR_UI, e4, mR_UI, e2, mR_UR, if_neg (fun z => hi z.2)]
  have K6 : mK M6 = mK M := by rw [e6, e4, e2]; rfl
  have N6 : mN M6 = mN M := by rw [e6, e4, e2]; rfl
  have Z6 : mZ M6 = mZ M := by rw [e6, e4, e2]; rfl
  have S6 : mS M6 = mS M := by rw [e6, e4, e2]; rfl
  have T6 : mR M6 w 0 = T := by rw [e6, mR_UI, e4, mR_UI, e2, mR_UR, if_pos ⟨rfl, rfl⟩]
  have i1 : mI M6 w 1 = N := by rw [e6, mI_UI, if_neg (fun z => absurd z.2 (by decide)), e4, mI_UI, if_pos ⟨rfl, rfl⟩]
  have i2 : mI M6 w 2 = 0 := by rw [e6, mI_UI, if_pos ⟨rfl, rfl⟩]
  have o2 : mOk M2 := by rw [e2]; exact mOk_UR hO
  have o4 : mOk M4 := by rw [e4]; exact mOk_UI o2 (i32s (by omega) (by omega))
  have o6 : mOk M6 := by rw [e6]; exact mOk_UI o4 (i32s (by omega) (by omega))
  have B6 : WB M6 w A B D C := by
    unfold WB at h ⊢
    rw [K6, N6, Z6, hw3 3 (by decide), hw3 4 (by decide), hw3 5 (by decide)]
    exact h
  have g2 : FA (woA w A B D) (fun x => x = w) M M2 := FA.ur rfl e2
  have g4 : FA (woA w A B D) (fun x => x = w) M2 M4 := FI.fa (by rw [e4]; exact FI.ui (Or.inl rfl))
  have g6' : FA (woA w A B D) (fun x => x = w) M4 M6 := FI.fa (by rw [e6]; exact FI.ui (Or.inl rfl))
  have g6 := (g2.trans g4).trans g6'
  have t6 := s_Wo_reserve (G := G) (d := d + 7) (q := N + 2) o6 B6 (by omega)
  rw [show ((N + 2 : Nat) : Int) = (N : Int) + 2 by omega] at t6
  rw [i1]
  refine t6.mono (fun M8 q => ?_)
  obtain ⟨A', B', D', C', o8, B8, q1, q2, g8, r8, gr⟩ := q
  have w6 : w < mZ M6 := by omega
  have c8 := g8.2 w w6
  have cT := g8.2 T (by omega)
  have h8 : WA M8 w T A' B' D' N C' := B8.wa (by rw [r8 0 (by decide) (by decide) (by decide)]; exact T6) (by rw [cT.1, K6]; exact kT) (by rw [cT.2.1, N6]; exact nT) (by rw [c8.2.2.2.2 (fun z => z)]; exact i1) hN (by omega)
  have w8 : WI M8 w A' B' D' N 0 := ⟨by rw [c8.2.2.2.2 (fun z => z)]; exact i2, fun i hi => absurd hi (by omega)⟩
  have C2 : C' ≤ 16777216 := by have := B8.2.2.2.2.2.2; omega
  have G8 : FA (woA w A B D) (fun x => x = w) M M8 := g6.trans2 g8 (fun _ _ z => z.elim) (fun _ _ z => z)
  have gr0 : grw M A B D C M8 A' B' D' C' := by
    unfold grw at gr ⊢
    rw [Z6, S6] at gr
    exact gr
  have TA : T ≠ A ∧ T ≠ B ∧ T ≠ D := by
    obtain ⟨-, -, ⟨a1, a2, a3⟩, -⟩ := h
    refine ⟨fun e => ?_, fun e => ?_, fun e => ?_⟩ <;> rw [e] at kT <;> omega
  have T8 : mI M8 T = mI M T := (G8.2 T zT).2.2.2.2 (fun z => by
    have z' : T = w ∨ T = A ∨ T = B ∨ T = D := z
    omega)
  have TA8 := h8.ne.2.2.2
  -- later steps
  have fin : ∀ {M9 : mM} {n : Nat}, mOk M9 → FI (woA w A' B' D') M8 M9 → Wf M9 w T A' B' D' N C' n → spx kw (mI M T) N M9 A' B' D' n → ∃ A' B' D' C' n, mOk M9 ∧ Wf M9 w T A' B' D' N C' n ∧ WB M9 w A' B' D' C' ∧ C' ≤ C + 2 * (N + 2) ∧ FA (woA w A B D) (fun x => x = w) M M9 ∧ grw M A B D C M9 A' B' D' C' ∧ spx kw (mI M T) N M9 A' B' D' n := fun {M9 n} o f hf hsp => by
    refine ⟨A', B', D', C', n, o, hf, B8.fi f, by omega, G8.trans2 (FI.fa (R := fun x => x = w) f) (fun x hx z => ?_) (fun _ _ z => z), ?_, hsp⟩
    · rcases gr0 with ⟨y1, y2, y3, -⟩ | ⟨y1, y2, y3, -⟩
      · rw [y1, y2, y3] at z
        exact z
      · have z' : x = w ∨ x = A' ∨ x = B' ∨ x = D' := z
        exact Or.inl (by omega)
    · unfold grw at gr0 ⊢
      rw [f.2.2.2.2.1, f.2.2.2.2.2.1]
      exact gr0
  refine ⟨o8, B8.1, (x_Wo_afterBlanks (q := 0) o8 h8 (by omega)).mono (fun x M9 q => ?_)⟩
  obtain ⟨e9, ex⟩ := q
  subst e9
  rw [T8] at ex
  have j0 := skp_b (c := mI M T) (n := N) (i := 0) (by omega)
  have ej : pwq (mI M T) N 0 = skp (mI M T) N 0 := rfl
  generalize skp (mI M T) N 0 = j at *
  have jN : j ≤ N := j0.2
  subst ex
  refine ⟨i32s (by omega) (by omega), o8, ?_⟩
  suffices H : ∀ (t k j : Nat) (M2 : mM), N ≤ j + t → k ≤ j → j ≤ N → mOk M2 → FI (woA w A' B' D') M9 M2 → WA M2 w T A' B' D' N C' → WI M2 w A' B' D' N k → spI kw (mI M T) N M2 A' B' D' k j → h_Wo_split_34 G (d + 7) w j k M2 (fun M' => ∃ A' B' D' C' n, mOk M' ∧ Wf M' w T A' B' D' N C' n ∧ WB M' w A' B' D' C' ∧ C' ≤ C + 2 * (N + 2) ∧ FA (woA w A B D) (fun x => x = w) M M' ∧ grw M A B D C M' A' B' D' C' ∧ spx kw (mI M T) N M' A' B' D' n) from H N 0 j M9 (by omega) (by omega) jN o8 FI.refl h8 w8 ⟨fun i hi => absurd hi (by omega), fun i hi => absurd hi (by omega), Or.inl ⟨ej.symm, fun i hi => absurd hi (by omega)⟩⟩
  intro t
  induction t with
  | zero =>
    intro k j M2 hj hkj hjN o f hA hI hS
    refine k_Wo_split_34 o (i32s (by omega) (by omega)) (i32s (by omega) (by omega)) ⟨hA.1, fun _ => ?_, fun y => absurd (Or.inr (by rw [hA.2.2.2.2.2.1]; omega)) y⟩
    rw [hA.2.2.2.2.2.1]
    refine (s_Wo_add (i32s (by omega) (by omega)) (i32s (by omega) (by omega)) (i32s (by omega) (by omega)) o hA hI.1 (by omega) C2).mono (fun M3 q => ?_)
    obtain ⟨o3, f3, A3, e3, eA, eB, eD⟩ := q
    refine ⟨o3, fin (n := k) o3 (f.trans f3) ⟨A3, e3, by omega, fun i hi => ?_, by rw [eA, if_pos rfl], by rw [eB, if_pos rfl]⟩ (hS.fin (by omega) (fun i hi => by rw [eA, if_neg (Nat.ne_of_lt hi)]) (fun i hi => by rw [eB, if_neg (Nat.ne_of_lt hi)]) (fun i hi => by rw [eD, if_neg (Nat.ne_of_lt hi)]))⟩
    rw [eA, eB, eD, if_neg (by omega), if_neg (by omega), if_neg (by omega)]
    exact hI.2 i hi
  | succ t ih =>
    intro k j M2 hj hkj hjN o f hA hI hS
    have e1 := hA.2.2.2.2.2.1
    refine k_Wo_split_34 o (i32s (by omega) (by omega)) (i32s (by omega) (by omega)) ⟨hA.1, fun yj => ?_, fun y => ?_⟩
    · rw [e1]
      refine (s_Wo_add (i32s (by omega) (by omega)) (i32s (by omega) (by omega)) (i32s (by omega) (by omega)) o hA hI.1 (by omega) C2).mono (fun M3 q => ?_)
      obtain ⟨o3, f3, A3, e3, eA, eB, eD⟩ := q
      refine ⟨o3, fin (n := k) o3 (f.trans f3) ⟨A3, e3, by omega, fun i hi => ?_, by rw [eA, if_pos rfl], by rw [eB, if_pos rfl]⟩ (hS.fin (by omega) (fun i hi => by rw [eA, if_neg (Nat.ne_of_lt hi)]) (fun i hi => by rw [eB, if_neg (Nat.ne_of_lt hi)]) (fun i hi => by rw [eD, if_neg (Nat.ne_of_lt hi)]))⟩
      rw [eA, eB, eD, if_neg (by omega), if_neg (by omega), if_neg (by omega)]
      exact hI.2 i hi
    · have jN' : j < N ∧ k < N := by
        constructor
        · exact Nat.lt_of_not_le (fun z => y (Or.inr (by omega)))
        · exact Nat.lt_of_not_le (fun z => y (Or.inl (by omega)))
      refine (x_Wo_takeWord hNS o hA hI jN'.2 C2 jN'.1).mono (fun r M3 q => ?_)
      obtain ⟨⟨o3, f3, A3, I3, j3, ej3, l3, u3⟩, ⟨s9, am9, q1', eA, eB, eD⟩, q39, qn⟩ := q
      subst ej3
      have T2 : mI M2 T = mI M T := by
        rw [← T8]
        exact f.2.2.2.2.2.2 T (fun z => by
          have z' : T = w ∨ T = A' ∨ T = B' ∨ T = D' := z
          omega)
      have T3 : mI M3 T = mI M T := by
        rw [← T2]
        exact f3.2.2.2.2.2.2 T (fun z => by
          have z' : T = w ∨ T = A' ∨ T = B' ∨ T = D' := z
          omega)
      rw [T2] at q1' q39 qn
      refine ⟨i32s (by omega) (by omega), o3, A3.1, (x_Wo_afterBlanks (q := j3) o3 A3 u3).mono (fun r M4 q => ?_)⟩
      obtain ⟨e4, ex4⟩ := q
      subst e4
      rw [T3] at ex4
      have b4 := skp_b (c := mI M T) u3
      have S4 := hS.step (r := j3) jN'.1 q1' eA eB eD (fun z => Int.ofNat_inj.mp (q39 z)) (fun z => Int.ofNat_inj.mp (qn z)) rfl
      clear q39 qn q1' eA eB eD
      generalize skp (mI M T) N j3 = j4 at *
      obtain ⟨l4, u4⟩ := b4
      subst ex4
      refine ⟨i32s (by omega) (by omega), o3, ?_⟩
      have := ih (k + 1) j4 M4 (by omega) (by omega) u4 o3 (f.trans f3) A3 I3 S4
      rw [show ((k + 1 : Nat) : Int) = (k : Int) + 1 by omega] at this
      exact this
end
end
