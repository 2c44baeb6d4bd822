section
section
variable {G : mG} {d w T A B D N C k : Nat} {M M' M1 : mM} {kw : (Nat → Int) → Nat → Nat → Int}
theorem x_Wo_takeName {p : Nat} (hNS : NSx G kw) (hO : mOk M) (h : WA M w T A B D N C) (hi : WI M w A B D N k) (hkN : k < N) (hC2 : C ≤ 16777216) (hp : p < N) (hlt : isL (mI M T p)) : Ci G y_Wo_takeName (d + 6) [vr w, vi p] M (twX kw M w T A B D N C k p) := by
  obtain ⟨h1, ⟨p0, p3, p4, p5⟩, ⟨kT, nT⟩, -, -, h6, h7, h8, -⟩ := id h
  refine k_Wo_takeName hO (i32s (by omega) (by omega)) ?_
  have hnd : ¬ isDq (mI M T p) := by unfold isL isDq at *; omega
  have hwk := wkq_lt (n := N) (k1 := kw (mI M T)) hlt
  have hwe := weq_lt (n := N) hlt
  have fin : ∀ {v s : Int} {j : Nat}, p < j → j ≤ N → (v = 0 ∧ s = 1 ∨ v = 1 ∧ j ≤ p + 40 ∧ 2 ≤ s ∧ s ≤ 16 ∧ s ≠ 3) → weq (mI M T) N p = j → s = csq (wkq (kw (mI M T)) (mI M T) N p) → Hid (v = 0 ↔ 40 < j - p) → h_Wo_takeName_84 G (d + 5) w p j v w s M (twX kw M w T A B D N C k p) := fun {v s j} hj hjN hv ew es hv0 => by
    refine k_Wo_takeName_84 hO (i32s (by omega) (by omega)) (i32s (by omega) (by omega)) (i32s (by omega) (by omega)) (i32s (by omega) (by omega)) ⟨h1, ?_⟩
    refine (x_Wo_add2 (i32s (by omega) (by omega)) (i32s (by omega) (by omega)) (i32s (by omega) (by omega)) hO h hi hkN hC2 ⟨by omega, by omega, by omega, by omega⟩).mono (fun M16 q => ?_)
    obtain ⟨⟨o, f, h', i'⟩, eA, eB, eD⟩ := q
    refine ⟨o, fun _ => h'.1, fun v21 e21 => ⟨⟨o, f, h', i', ?_⟩, ⟨s, (j : Int) - p, ⟨es, rfl, fun _ => by rw [ew], fun q => absurd q hnd⟩, eA, eB, eD⟩, ?_⟩⟩
    · by_cases y : v = 0
      · rw [if_pos y, h'.2.2.2.2.2.1] at e21
        exact ⟨N, e21, by omega, Nat.le_refl _⟩
      · rw [if_neg y] at e21
        exact ⟨j, e21, hj, hjN⟩
    · rw [hwk] at es ⊢
      rw [ew] at es ⊢
      have hv1 := (show _ ↔ _ from hv0)
      by_cases y : 40 < j - p
      · rw [if_pos y]
        rw [if_pos (hv1.mpr y), h'.2.2.2.2.2.1] at e21
        exact ⟨fun _ => e21, fun q => absurd rfl q⟩
      · rw [if_neg y] at es ⊢
        have vn : ¬ v = 0 := fun q => y (hv1.mp q)
        rw [if_neg vn] at e21
        refine ⟨fun q => ?_, fun _ => e21⟩
        rw [q] at es
        have : csq 39 = 1 := by decide
        rw [this] at es
        omega
  have sor : ∀ {j : Nat}, p < j → j ≤ N → weq (mI M T) N p = j → i32 ((j : Int) - p) ∧ ∀ v6 : Int, v6 = (if (40 < (j : Int) - p) then 0 else 1) → ((v6 = 0) → (h_Wo_takeName_84 G (d + 5) w p j v6 w 1 M (twX kw M w T A B D N C k p))) ∧ (¬ (v6 = 0) → (Ci G y_Wo_nameSort (d + 5) [vr w, vi p, vi ((j : Int) - p)] M (fun x14 M13 => i32 x14 ∧ mOk M13 ∧ (h_Wo_takeName_84 G (d + 5) w p j v6 w x14 M13 (twX kw M w T A B D N C k p))))) := fun {j} hj hjN ew => by
    refine ⟨i32s (by omega) (by omega), fun v6 e6 => ⟨fun z => ?_, fun z => ?_⟩⟩
    · have y : (40 : Int) < (j : Int) - p := Classical.byContradiction (fun y => by rw [if_neg y] at e6; omega)
      refine fin hj hjN (Or.inl ⟨z, rfl⟩) ew ?_ ⟨fun _ => by omega, fun _ => z⟩
      rw [hwk, ew, if_pos (by omega)]
      decide
    have j40 : j ≤ p + 40 ∧ v6 = 1 := by
      by_cases y : (40 : Int) < (j : Int) - p
      · rw [if_pos y] at e6
        exact absurd e6 z
      · rw [if_neg y] at e6
        exact ⟨by omega, e6⟩
    have t := hNS d w T A B D N C p (j - p) M hO h (by omega) (by omega) (by omega)
    rw [show ((j - p : Nat) : Int) = (j : Int) - p by omega, show p + (j - p) = j by omega] at t
    refine t.mono (fun x M2 q => ?_)
    obtain ⟨e2, ⟨x1, x2, x3⟩, x4⟩ := q
    subst e2
    refine ⟨i32s (by omega) (by omega), hO, fin hj hjN (Or.inr ⟨j40.2, j40.1, x1, x2, x3⟩) ew ?_ ⟨fun q => absurd q z, fun q => by omega⟩⟩
    rw [hwk, ew, if_neg (by omega)]
    exact x4
  suffices H : ∀ (t j : Nat), N ≤ j + t → p < j → j ≤ N → enq nmq (mI M T) (N - p) p = enq nmq (mI M T) (N - j) j → h_Wo_takeName_4 G (d + 5) w p j M (twX kw M w T A B D N C k p) from H N (p + 1) (by omega) (by omega) (by omega) (by
    rw [show N - p = (N - (p + 1)) + 1 by omega]
    exact enq_y (P := nmq) (Or.inl hlt))
  intro t
  induction t with
  | zero =>
    intro j hj hpj hjN hX
    have ejN : j = N := by omega
    have ew : weq (mI M T) N p = j := by rw [hwe, hX, ejN, Nat.sub_self]; rfl
    exact k_Wo_takeName_4 hO (i32s (by omega) (by omega)) (i32s (by omega) (by omega)) ⟨h1, fun _ => sor hpj hjN ew, fun z => absurd (by omega) z⟩
  | succ t ih =>
    intro j hj hpj hjN hX
    refine k_Wo_takeName_4 hO (i32s (by omega) (by omega)) (i32s (by omega) (by omega)) ⟨h1, fun z => ?_, fun z => ?_⟩
    · have ejN : j = N := by omega
      have ew : weq (mI M T) N p = j := by rw [hwe, hX, ejN, Nat.sub_self]; rfl
      exact sor hpj hjN ew
    have ej : N - j = (N - (j + 1)) + 1 := by omega
    rw [ej] at hX
    rw [p0, Int.toNat_natCast]
    have go : nmq (mI M T j) → h_Wo_takeName_4 G (d + 5) w p ((j : Int) + 1) M (twX kw M w T A B D N C k p) := fun q => ih (j + 1) (by omega) (by omega) (by omega) (by rw [hX]; exact enq_y (P := nmq) q)
    refine ⟨kT, by omega, (x_Wo_isLetter hO (hO _ _).1).mono (fun x M2 q => ?_)⟩
    obtain ⟨e2, hx, hxl⟩ := q
    subst e2
    rw [p0]
    refine ⟨i32s (by omega) (by omega), hO, fun x0 => ⟨h1, kT, by omega, (s_Wo_isDigit hO (hO _ _).1).mono (fun x M3 q => ?_)⟩, fun x0 => go (Or.inl (hxl.mp x0))⟩
    obtain ⟨e3, hx', hxd⟩ := q
    subst e3
    rw [p0]
    refine ⟨i32s (by omega) (by omega), hO, fun _ => ⟨h1, kT, by omega⟩, fun q => go ?_, fun q => ?_⟩
    · rcases q with q | q
      · exact Or.inr (Or.inl (hxd.mp q))
      · exact Or.inr (Or.inr q)
    · have nn : ¬ nmq (mI M3 T j) := fun q2 => by
        rcases q2 with q2 | q2 | q2
        · exact hxl.mpr q2 x0
        · exact q (Or.inl (hxd.mpr q2))
        · exact q (Or.inr q2)
      rw [enq_n nn] at hX
      obtain ⟨f1, f2⟩ := sor hpj hjN (by rw [hwe, hX])
      exact ⟨f1, fun v40 e40 => ⟨(f2 v40 e40).1, fun z => ⟨h1, (f2 v40 e40).2 z⟩⟩⟩
end
end
