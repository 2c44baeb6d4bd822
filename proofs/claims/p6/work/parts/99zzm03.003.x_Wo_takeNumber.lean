section
section
variable {G : mG} {d w T A B D N C k : Nat} {M M' M1 : mM} {kw : (Nat → Int) → Nat → Nat → Int}
theorem x_Wo_takeNumber {p : Nat} (hO : mOk M) (h : WA M w T A B D N C) (hi : WI M w A B D N k) (hkN : k < N) (hC2 : C ≤ 16777216) (hp : p < N) (hc : 48 ≤ mI M T p ∧ mI M T p ≤ 57) : Ci G y_Wo_takeNumber (d + 1) [vr w, vi p] M (twX kw M w T A B D N C k p) := by
  obtain ⟨h1, ⟨p0, p3, p4, p5⟩, ⟨kT, nT⟩, -, -, h6, h7, h8, -⟩ := id h
  refine k_Wo_takeNumber hO (i32s (by omega) (by omega)) ?_
  have pw : ∀ n, n ≤ 9 → (10 : Int) ^ n ≤ 1000000000 := by decide
  have hdg : isDq (mI M T p) := hc
  have hnl : ¬ isL (mI M T p) := by unfold isL; omega
  have hwk := wkq_dg (n := N) (k1 := kw (mI M T)) hdg
  have hwe := weq_dg (n := N) hdg
  -- the end
  have fin : ∀ {v : Int} {j : Nat}, p < j → j ≤ N → 0 ≤ v → v ≤ 999999999 → weq (mI M T) N p = j → Hid (j - p ≤ 9 → v = numq (mI M T) p (j - p)) → i32 ((j : Int) - p) ∧ ∀ v6 : Int, v6 = (if (9 < (j : Int) - p) then 0 else 1) → ∀ v12 : Int, v12 = (if (v6 = 0) then 1 else 3) → Cv G y_Wo_add d [vr w, vi v12, vi p, vi v] M (fun M16 => mOk M16 ∧ (((v6 = 0) → mK M16 w = 2) ∧ ∀ v21 : Int, v21 = (if (v6 = 0) then mI M16 w 1 else j) → twX kw M w T A B D N C k p v21 M16)) := fun {v j} hj hjN v0 v1 ew hv => by
    refine ⟨i32s (by omega) (by omega), fun v6 e6 v12 e12 => ?_⟩
    have b12 : v12 = 1 ∨ v12 = 3 := by rw [e12]; split <;> omega
    refine (x_Wo_add2 (i32s (by omega) (by omega)) (i32s (by omega) (by omega)) ⟨by omega, by omega⟩ hO h hi hkN hC2 ⟨by omega, by omega, by omega, by omega⟩).mono (fun M16 q => ?_)
    obtain ⟨⟨o, f, h', i'⟩, eA, eB, eD⟩ := q
    refine ⟨o, fun _ => h'.1, fun v21 e21 => ⟨⟨o, f, h', i', ?_⟩, ⟨v12, v, ⟨?_, rfl, fun q => absurd q hnl, fun _ q => ?_⟩, eA, eB, eD⟩, ?_⟩⟩
    · by_cases y : v6 = 0
      · rw [if_pos y, h'.2.2.2.2.2.1] at e21
        exact ⟨N, e21, by omega, Nat.le_refl _⟩
      · rw [if_neg y] at e21
        exact ⟨j, e21, hj, hjN⟩
    · by_cases y : 9 < j - p
      · have z6 : v6 = 0 := by rw [e6, if_pos (by omega)]
        rw [hwk, ew, if_pos y, e12, if_pos z6]; decide
      · have z6 : ¬ v6 = 0 := by rw [e6, if_neg (by omega)]; decide
        rw [hwk, ew, if_neg y, e12, if_neg z6]; decide
    · rw [hwk, ew] at q
      have y : ¬ 9 < j - p := fun z => q (by rw [if_pos z])
      rw [ew]
      exact (show _ → _ from hv) (by omega)
    · rw [hwk, ew]
      by_cases y : 9 < j - p
      · rw [if_pos y]
        rw [if_pos (by omega)] at e6
        rw [if_pos e6, h'.2.2.2.2.2.1] at e21
        exact ⟨fun _ => e21, fun q => absurd rfl q⟩
      · rw [if_neg y]
        rw [if_neg (by omega)] at e6
        rw [if_neg (by omega)] at e21
        exact ⟨fun q => absurd q (by decide), fun _ => e21⟩
  suffices H : ∀ (t j : Nat) (v : Int), N ≤ j + t → p ≤ j → j ≤ N → (p < j ∨ j = p) → 0 ≤ v → v ≤ 999999999 → (j - p ≤ 9 → v + 1 ≤ (10 : Int) ^ (j - p)) → enq isDq (mI M T) (N - p) p = enq isDq (mI M T) (N - j) j → Hid (j - p ≤ 9 → v = numq (mI M T) p (j - p)) → h_Wo_takeNumber_4 G d w p v j M (twX kw M w T A B D N C k p) from H N p 0 (by omega) (Nat.le_refl _) (by omega) (Or.inr rfl) (by omega) (by omega) (fun _ => by rw [Nat.sub_self]; decide) rfl (fun _ => by rw [Nat.sub_self]; rfl)
  intro t
  induction t with
  | zero =>
    intro j v hj hpj hjN hd v0 v1 hv hX hV
    have ejN : j = N := by omega
    have ew : weq (mI M T) N p = j := by rw [hwe, hX, ejN, Nat.sub_self]; rfl
    exact k_Wo_takeNumber_4 hO (i32s (by omega) (by omega)) ⟨by omega, by omega⟩ (i32s (by omega) (by omega)) ⟨h1, fun _ => fin (by omega) hjN v0 v1 ew hV, fun z => absurd (by omega) z⟩
  | succ t ih =>
    intro j v hj hpj hjN hd v0 v1 hv hX hV
    refine k_Wo_takeNumber_4 hO (i32s (by omega) (by omega)) ⟨by omega, by omega⟩ (i32s (by omega) (by omega)) ⟨h1, fun z => ?_, fun z => ?_⟩
    · have ejN : j = N := by omega
      have ew : weq (mI M T) N p = j := by rw [hwe, hX, ejN, Nat.sub_self]; rfl
      exact fin (by omega) hjN v0 v1 ew hV
    have ej : N - j = (N - (j + 1)) + 1 := by omega
    rw [ej] at hX
    rw [p0, Int.toNat_natCast]
    refine ⟨kT, by omega, (s_Wo_isDigit hO (hO _ _).1).mono (fun x M2 q => ?_)⟩
    obtain ⟨e2, hx, ex⟩ := q
    subst e2
    rw [p0]
    refine ⟨i32s (by omega) (by omega), hO, fun x0 => ?_, fun x0 => ?_⟩
    · have pj : p < j := by
        rcases hd with y | y
        · exact y
        · subst y
          exact absurd (ex.2 hc) (fun z => z x0)
      have nd : ¬ isDq (mI M2 T j) := fun q => ex.2 q x0
      rw [enq_n nd] at hX
      obtain ⟨f1, f2⟩ := fin pj hjN v0 v1 (by rw [hwe, hX]) hV
      exact ⟨f1, fun v42 e42 v48 e48 => ⟨h1, f2 v42 e42 v48 e48⟩⟩
    · have dg := ex.1 x0
      clear ex
      rw [enq_y (P := isDq) dg] at hX
      refine ⟨i32s (by omega) (by omega), fun _ => ⟨h1, kT, by omega⟩, fun v70 e70 => ?_⟩
      have st : h_Wo_takeNumber_4 G d w p v70 ((j + 1 : Nat) : Int) M2 (twX kw M2 w T A B D N C k p) := by
        by_cases y : (9 : Int) ≤ (j : Int) - p
        · rw [if_pos y] at e70
          subst e70
          exact ih (j + 1) 0 (by omega) (by omega) (by omega) (Or.inl (by omega)) (by omega) (by omega) (fun z => by omega) hX (fun z => by omega)
        · rw [if_neg y] at e70
          have a1 := hv (by omega)
          have a2 := pw (j + 1 - p) (by omega)
          have a3 : (10 : Int) ^ (j + 1 - p) = 10 ^ (j - p) * 10 := by rw [show j + 1 - p = (j - p) + 1 by omega, Int.pow_succ]
          have a4 : v = numq (mI M2 T) p (j - p) := (show _ → _ from hV) (by omega)
          have a5 : Hid (j + 1 - p ≤ 9 → v70 = numq (mI M2 T) p (j + 1 - p)) := fun _ => by
            rw [show j + 1 - p = (j - p) + 1 by omega]
            show v70 = 10 * numq (mI M2 T) p (j - p) + (mI M2 T (p + (j - p)) - 48)
            rw [← a4, show p + (j - p) = j by omega]
            exact e70
          exact ih (j + 1) v70 (by omega) (by omega) (by omega) (Or.inl (by omega)) (by omega) (by omega) (fun _ => by omega) hX a5
      exact st
end
end
