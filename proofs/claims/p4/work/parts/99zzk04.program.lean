/-! The class's programs: places, add, clear. -/
section PRG
variable {G : mG} {d z p O P C n : Nat} {M M' M1 M2 : mM} {S : Nat → Prop}
/-- a program's tables -/
def PL (M : mM) (p : Nat) : Prop := (mR M p 4 = p + 3 ∧ mR M p 5 = p + 4 ∧ mR M p 6 = p + 5 ∧ mR M p 8 = p + 6 ∧ mR M p 9 = p + 7 ∧ mR M p 10 = p + 8 ∧ mR M p 13 = p + 9 ∧ mR M p 14 = p + 10 ∧ mR M p 15 = p + 11 ∧ mR M p 16 = p + 12 ∧ mR M p 17 = p + 13 ∧ mR M p 18 = p + 14 ∧ mR M p 19 = p + 15) ∧ (mK M (p + 3) = 30 ∧ mK M (p + 4) = 30 ∧ mK M (p + 5) = 30 ∧ mK M (p + 6) = 30 ∧ mK M (p + 7) = 30 ∧ mK M (p + 8) = 30 ∧ mK M (p + 9) = 30 ∧ mK M (p + 10) = 30 ∧ mK M (p + 11) = 30 ∧ mK M (p + 12) = 30 ∧ mK M (p + 13) = 30 ∧ mK M (p + 14) = 30 ∧ mK M (p + 15) = 30) ∧ (mN M (p + 3) = 12 ∧ mN M (p + 4) = 12 ∧ mN M (p + 5) = 12 ∧ mN M (p + 6) = 60 ∧ mN M (p + 7) = 60 ∧ mN M (p + 8) = 60 ∧ mN M (p + 9) = 60 ∧ mN M (p + 10) = 60 ∧ mN M (p + 11) = 60 ∧ mN M (p + 12) = 61 ∧ mN M (p + 13) = 480 ∧ mN M (p + 14) = 480 ∧ mN M (p + 15) = 480)
/-- a program: O orders, P operands, of C places; z the end of the class's first cells -/
def PK (M : mM) (z p O P C : Nat) : Prop := mK M p = 6 ∧ (mR M p 0 = O ∧ mR M p 1 = P) ∧ (mK M O = 30 ∧ mK M P = 30 ∧ mN M O = C ∧ mN M P = C) ∧ ((O = p + 1 ∨ z ≤ O) ∧ (P = p + 2 ∨ z ≤ P) ∧ O ≠ P ∧ p + 16 ≤ z) ∧ (z ≤ mZ M ∧ O < mZ M ∧ P < mZ M) ∧ (128 ≤ C ∧ C ≤ 40000) ∧ PL M p
theorem PK.fi (h : PK M z p O P C) (f : FI S M M') : PK M' z p O P C := by
  obtain ⟨f1, f2, f3, f4, f5, -⟩ := f
  unfold PK PL at h ⊢
  rw [f1, f2, f3, f5]
  exact h
/-- what adding an order changes -/
def prS (p O P : Nat) : Nat → Prop := fun x => x = p ∨ x = O ∨ x = P
theorem s_Pr_add {o x : Int} (ho : i32 o) (hx : i32 x) (hO : mOk M) (h : PK M z p O P C) (hn : mI M p 2 = n) (hC : n < C) : Ci G y_Pr_add d [vr p, vi o, vi x] M (fun r M' => r = n ∧ mOk M' ∧ FI (prS p O P) M M' ∧ (∀ j, mI M' p j = if j = 2 then (n : Int) + 1 else mI M p j) ∧ (∀ j, mI M' O j = if j = n then o else mI M O j) ∧ (∀ j, mI M' P j = if j = n then x else mI M P j)) := by
  obtain ⟨h1, ⟨r0, r1⟩, ⟨k0, k1, n0, n1⟩, ⟨a0, a1, a2, a3⟩, -, hc, -⟩ := id h
  have e0 : O ≠ p := by omega
  have e1 : P ≠ p := by omega
  refine k_Pr_add hO ho hx ?_
  rw [r0, n0, hn, Int.toNat_natCast]
  refine ⟨h1, k0, ⟨by omega, by omega⟩, fun y => absurd y (by omega), fun _ => ⟨by omega, fun M13 e13 => ?_⟩⟩
  have a13 : mI M13 p = mI M p := by rw [e13]; funext j; rw [mI_UI, if_neg (fun q => e0 q.1.symm)]
  have R13 : mR M13 = mR M := by rw [e13]; rfl
  have K13 : mK M13 = mK M := by rw [e13]; rfl
  have N13 : mN M13 = mN M := by rw [e13]; rfl
  rw [R13, K13, N13, r1, n1, a13, hn, Int.toNat_natCast]
  refine ⟨k1, by omega, fun M17 e17 => ?_⟩
  have a17 : mI M17 p = mI M p := by rw [e17]; funext j; rw [mI_UI, if_neg (fun q => e1 q.1.symm), a13]
  rw [a17, hn]
  refine ⟨⟨by omega, by omega⟩, fun M20 e20 => ?_⟩
  have o13 : mOk M13 := by rw [e13]; exact mOk_UI hO ho
  have o17 : mOk M17 := by rw [e17]; exact mOk_UI o13 hx
  have o20 : mOk M20 := by rw [e20]; exact mOk_UI o17 ⟨by omega, by omega⟩
  have g13 : FI (prS p O P) M M13 := by rw [e13]; exact FI.ui (Or.inr (Or.inl rfl))
  have g17 : FI (prS p O P) M13 M17 := by rw [e17]; exact FI.ui (Or.inr (Or.inr rfl))
  have g20 : FI (prS p O P) M17 M20 := by rw [e20]; exact FI.ui (Or.inl rfl)
  have ap : ∀ j, mI M20 p j = if j = 2 then (n : Int) + 1 else mI M p j := fun j => by
    rw [e20, mI_UI]
    by_cases y : j = 2
    · rw [if_pos ⟨rfl, y⟩, if_pos y]
    · rw [if_neg (fun q => y q.2), if_neg y, a17]
  refine ⟨by rw [ap, if_pos rfl]; omega, o20, (g13.trans g17).trans g20, ap, fun j => ?_, fun j => ?_⟩
  · rw [e20, mI_UI, if_neg (fun q => e0 q.1), e17, mI_UI, if_neg (fun q => a2 q.1), e13, mI_UI]
    by_cases y : j = n
    · rw [if_pos ⟨rfl, y⟩, if_pos y]
    · rw [if_neg (fun q => y q.2), if_neg y]
  · rw [e20, mI_UI, if_neg (fun q => e1 q.1), e17, mI_UI]
    by_cases y : j = n
    · rw [if_pos ⟨rfl, y⟩, if_pos y]
    · rw [if_neg (fun q => y q.2), if_neg y, e13, mI_UI, if_neg (fun q => a2 q.1.symm)]
/-- how a program's arrays grew -/
def grp (M : mM) (O P C : Nat) (M' : mM) (O' P' C' : Nat) : Prop := (O' = O ∧ P' = P ∧ C' = C ∧ mZ M' = mZ M ∧ mS M' = mS M) ∨ (O' = mZ M ∧ P' = mZ M + 1 ∧ 2 * C ≤ C' ∧ mZ M' = mZ M + 2 ∧ mS M' = mS M + 2 * C')
/-- a program that is cleared, with room for q orders -/
def pcQ (M : mM) (z p O P C q : Nat) (M' : mM) : Prop := ∃ O' P' C', mOk M' ∧ PK M' z p O' P' C' ∧ q ≤ C' ∧ C' ≤ C + 2 * q ∧ FA (fun x => x = p ∨ x = p + 12) (fun x => x = p) M M' ∧ (mI M' p 2 = 0 ∧ mI M' p 3 = 0 ∧ mI M' p 7 = 0 ∧ mI M' p 12 = 0 ∧ mI M' p 11 = -1) ∧ mI M' (p + 12) 0 = 0 ∧ grp M O P C M' O' P' C'
theorem s_Pr_clear {q : Nat} (hO : mOk M) (h : PK M z p O P C) (hq : q ≤ 16400) : Cv G y_Pr_clear d [vr p, vi q] M (pcQ M z p O P C q) := by
  have wl : p < mZ M ∧ p + 12 < mZ M := by have := h.2.2.2.1.2.2.2; have := h.2.2.2.2.1.1; omega
  refine k_Pr_clear hO ⟨by omega, by omega⟩ ⟨h.1, fun M2 e2 M4 e4 M6 e6 M8 e8 M10 e10 => ?_⟩
  have f10 : FI (fun x => x = p ∨ x = p + 12) M M10 := by
    have g2 : FI (fun x => x = p ∨ x = p + 12) M M2 := by rw [e2]; exact FI.ui (Or.inl rfl)
    have g4 : FI (fun x => x = p ∨ x = p + 12) M2 M4 := by rw [e4]; exact FI.ui (Or.inl rfl)
    have g6 : FI (fun x => x = p ∨ x = p + 12) M4 M6 := by rw [e6]; exact FI.ui (Or.inl rfl)
    have g8 : FI (fun x => x = p ∨ x = p + 12) M6 M8 := by rw [e8]; exact FI.ui (Or.inl rfl)
    have g10 : FI (fun x => x = p ∨ x = p + 12) M8 M10 := by rw [e10]; exact FI.ui (Or.inl rfl)
    exact (((g2.trans g4).trans g6).trans g8).trans g10
  have o10 : mOk M10 := by
    have o2 : mOk M2 := by rw [e2]; exact mOk_UI hO ⟨by decide, by decide⟩
    have o4 : mOk M4 := by rw [e4]; exact mOk_UI o2 ⟨by decide, by decide⟩
    have o6 : mOk M6 := by rw [e6]; exact mOk_UI o4 ⟨by decide, by decide⟩
    have o8 : mOk M8 := by rw [e8]; exact mOk_UI o6 ⟨by decide, by decide⟩
    rw [e10]; exact mOk_UI o8 ⟨by decide, by decide⟩
  have v10 : mI M10 p 2 = 0 ∧ mI M10 p 3 = 0 ∧ mI M10 p 7 = 0 ∧ mI M10 p 12 = 0 ∧ mI M10 p 11 = -1 := by
    subst e10 e8 e6 e4 e2
    simp [mI_UI]
  have k10 := h.fi f10
  obtain ⟨-, -, -, -, -, -, PL10⟩ := id k10
  rw [show mR M10 p 16 = p + 12 from PL10.1.2.2.2.2.2.2.2.2.2.1, show mN M10 (p + 12) = 61 from PL10.2.2.2.2.2.2.2.2.2.2.2.1]
  refine ⟨PL10.2.1.2.2.2.2.2.2.2.2.2.1, by omega, fun M14 e14 => ?_⟩
  have f14 : FI (fun x => x = p ∨ x = p + 12) M M14 := f10.trans (by rw [e14]; exact FI.ui (Or.inr rfl))
  have o14 : mOk M14 := by rw [e14]; exact mOk_UI o10 ⟨by decide, by decide⟩
  have v14 : (mI M14 p 2 = 0 ∧ mI M14 p 3 = 0 ∧ mI M14 p 7 = 0 ∧ mI M14 p 12 = 0 ∧ mI M14 p 11 = -1) ∧ mI M14 (p + 12) 0 = 0 := by
    have e : mI M14 p = mI M10 p := by rw [e14]; funext j; rw [mI_UI, if_neg (fun y => by omega)]
    rw [e]
    exact ⟨v10, by rw [e14, mI_UI, if_pos ⟨rfl, rfl⟩]⟩
  have k14 := h.fi f14
  have Z14 : mZ M14 = mZ M := f14.2.2.2.2.1
  have S14 : mS M14 = mS M := f14.2.2.2.2.2.1
  clear e2 e4 e6 e8 e10 e14 k10 PL10 v10 o10 f10
  obtain ⟨h1, ⟨r0, r1⟩, ⟨k0, k1, n0, n1⟩, ⟨a0, a1, a2, a3⟩, ⟨z1, z2, z3⟩, ⟨b1, b2⟩, hPL⟩ := id k14
  rw [r0, n0]
  refine ⟨k0, ?_⟩
  suffices H : ∀ (t i l : Nat), 8 ≤ i + t → i ≤ 8 → 128 * 2 ^ i ≤ l → ((i = 0 ∧ l = C) ∨ (2 * C ≤ l ∧ l ≤ 2 * q)) → h_Pr_clear_40 G d p q l i M14 (pcQ M z p O P C q) from H 8 0 C (by omega) (by omega) (by simpa using b1) (Or.inl ⟨rfl, rfl⟩)
  have fin : ∀ {l : Nat}, q ≤ l → (l = C ∨ (2 * C ≤ l ∧ l ≤ 2 * q)) → mK M14 p = 6 ∧ mK M14 (mR M14 p 0) = 30 ∧ i32 (mN M14 (mR M14 p 0) : Int) ∧ (((l : Int) ≤ (mN M14 (mR M14 p 0) : Int)) → (pcQ M z p O P C q M14)) ∧ (¬ ((l : Int) ≤ (mN M14 (mR M14 p 0) : Int)) → (((0 : Int) ≤ l ∧ (l : Int) ≤ 16777216) ∧ ∀ M30, M30 = mNew M14 30 (Int.toNat l) (Int.toNat l) → mK M30 p = 6 ∧ ∀ M33, M33 = mUR M30 p 0 (mZ M14) → ((0 : Int) ≤ l ∧ (l : Int) ≤ 16777216) ∧ ∀ M36, M36 = mNew M33 30 (Int.toNat l) (Int.toNat l) → mK M36 p = 6 ∧ ∀ M39, M39 = mUR M36 p 1 (mZ M33) → pcQ M z p O P C q M39)) := fun {l} hl hd => by
    rw [r0, n0, Int.toNat_natCast]
    have F14 : FA (fun x => x = p ∨ x = p + 12) (fun x => x = p) M M14 := FI.fa f14
    refine ⟨h1, k0, ⟨by omega, by omega⟩, fun y => ⟨O, P, C, o14, k14, by omega, by omega, F14, v14.1, v14.2, Or.inl ⟨rfl, rfl, rfl, Z14, S14⟩⟩, fun y => ⟨by omega, fun M30 e30 => ?_⟩⟩
    have g30 : FA (fun _ => False) (fun x => x = p) M14 M30 := FA.new e30
    have Z30 : mZ M30 = mZ M14 + 1 := by rw [e30]; rfl
    have pz : p < mZ M14 := by omega
    refine ⟨by rw [(g30.2 p pz).1]; exact h1, fun M33 e33 => ⟨by omega, fun M36 e36 => ?_⟩⟩
    have g33 := g30.trans (FA.ur (S := fun _ => False) (R := fun x => x = p) rfl e33)
    have Z33 : mZ M33 = mZ M14 + 1 := by rw [e33]; exact Z30
    have g36 := g33.trans (FA.new (S := fun _ => False) (R := fun x => x = p) e36)
    have Z36 : mZ M36 = mZ M14 + 2 := by rw [e36, mZ_New, Z33]
    refine ⟨by rw [(g36.2 p pz).1]; exact h1, fun M39 e39 => ?_⟩
    have g39 := g36.trans (FA.ur (S := fun _ => False) (R := fun x => x = p) rfl e39)
    have Z39 : mZ M39 = mZ M14 + 2 := by rw [e39]; exact Z36
    have S39 : mS M39 = mS M14 + 2 * l := by
      rw [e39, mS_UR, e36, mS_New, e33, mS_UR, e30, mS_New]
      omega
    have K39 : ∀ x, mK M39 x = if x = mZ M14 + 1 then 30 else if x = mZ M14 then 30 else mK M14 x := fun x => by
      rw [e39, mK_UR, e36, mK_New, Z33, e33, mK_UR, e30, mK_New]
    have N39 : ∀ x, mN M39 x = if x = mZ M14 + 1 then l else if x = mZ M14 then l else mN M14 x := fun x => by
      rw [e39, mN_UR, e36, mN_New, Z33, e33, mN_UR, e30, mN_New]
    have R39 : ∀ i, mR M39 p i = if i = 1 then mZ M14 + 1 else if i = 0 then mZ M14 else mR M14 p i := fun i => by
      rw [e39, mR_UR, Z33]
      by_cases y1 : i = 1
      · rw [if_pos ⟨rfl, y1⟩, if_pos y1]
      · rw [if_neg (fun q => y1 q.2), if_neg y1, e36, mR_New, if_neg (by omega), e33, mR_UR]
        by_cases y0 : i = 0
        · rw [if_pos ⟨rfl, y0⟩, if_pos y0]
        · rw [if_neg (fun q => y0 q.2), if_neg y0, e30, mR_New, if_neg (by omega)]
    have o30 : mOk M30 := by rw [e30]; exact mOk_New o14
    have o33 : mOk M33 := by rw [e33]; exact mOk_UR o30
    have o36 : mOk M36 := by rw [e36]; exact mOk_New o33
    have o39 : mOk M39 := by rw [e39]; exact mOk_UR o36
    have l2 : 2 * C ≤ l ∧ l ≤ 2 * q := by omega
    have pl : PL M39 p := by
      have kk : ∀ i, i ≤ 15 → mK M39 (p + i) = mK M14 (p + i) := fun i hi => (g39.2 (p + i) (by omega)).1
      have nn : ∀ i, i ≤ 15 → mN M39 (p + i) = mN M14 (p + i) := fun i hi => (g39.2 (p + i) (by omega)).2.1
      have rr : ∀ i, i ≠ 0 → i ≠ 1 → mR M39 p i = mR M14 p i := fun i i0 i1 => by rw [R39, if_neg i1, if_neg i0]
      unfold PL at hPL ⊢
      rw [rr 4 (by decide) (by decide), rr 5 (by decide) (by decide), rr 6 (by decide) (by decide), rr 8 (by decide) (by decide), rr 9 (by decide) (by decide), rr 10 (by decide) (by decide), rr 13 (by decide) (by decide), rr 14 (by decide) (by decide), rr 15 (by decide) (by decide), rr 16 (by decide) (by decide), rr 17 (by decide) (by decide), rr 18 (by decide) (by decide), rr 19 (by decide) (by decide), kk 3 (by omega), kk 4 (by omega), kk 5 (by omega), kk 6 (by omega), kk 7 (by omega), kk 8 (by omega), kk 9 (by omega), kk 10 (by omega), kk 11 (by omega), kk 12 (by omega), kk 13 (by omega), kk 14 (by omega), kk 15 (by omega), nn 3 (by omega), nn 4 (by omega), nn 5 (by omega), nn 6 (by omega), nn 7 (by omega), nn 8 (by omega), nn 9 (by omega), nn 10 (by omega), nn 11 (by omega), nn 12 (by omega), nn 13 (by omega), nn 14 (by omega), nn 15 (by omega)]
      exact hPL
    have vI : mI M39 p = mI M14 p := (g39.2 p pz).2.2.2.2 (fun q => q)
    have vJ : mI M39 (p + 12) = mI M14 (p + 12) := (g39.2 (p + 12) (by omega)).2.2.2.2 (fun q => q)
    refine ⟨mZ M14, mZ M14 + 1, l, o39, ⟨by rw [(g39.2 p pz).1]; exact h1, ⟨by rw [R39, if_neg (by decide), if_pos rfl], by rw [R39, if_pos rfl]⟩, ⟨by rw [K39, if_neg (by omega), if_pos rfl], by rw [K39, if_pos rfl], by rw [N39, if_neg (by omega), if_pos rfl], by rw [N39, if_pos rfl]⟩, ⟨Or.inr z1, Or.inr (by omega), by omega, a3⟩, ⟨by omega, by omega, by omega⟩, ⟨by omega, by omega⟩, pl⟩, hl, by omega, F14.trans2 g39 (fun _ _ q => q.elim) (fun _ _ q => q), by rw [vI]; exact v14.1, by rw [vJ]; exact v14.2, Or.inr ⟨by omega, by omega, l2.1, by omega, by omega⟩⟩
  intro t
  induction t with
  | zero =>
    intro i l hi hi8 hl hd
    have i8 : i = 8 := by omega
    subst i8
    refine k_Pr_clear_40 o14 ⟨by omega, by omega⟩ ⟨by omega, by omega⟩ ⟨by omega, by omega⟩ ⟨fun y => fin (by omega) (by omega), fun y => absurd (Or.inr (by omega)) y⟩
  | succ t ih =>
    intro i l hi hi8 hl hd
    refine k_Pr_clear_40 o14 ⟨by omega, by omega⟩ ⟨by omega, by omega⟩ ⟨by omega, by omega⟩ ⟨fun y => fin (by omega) (by omega), fun y => ?_⟩
    have y1 : l < q := by omega
    by_cases e8 : i = 8
    · subst e8
      omega
    · have e2 : 128 * 2 ^ (i + 1) = 2 * (128 * 2 ^ i) := by rw [Nat.pow_succ]; omega
      have := ih (i + 1) (l * 2) (by omega) (by omega) (by omega) (Or.inr (by omega))
      rw [show ((l * 2 : Nat) : Int) = (l : Int) * 2 by omega, show ((i + 1 : Nat) : Int) = (i : Int) + 1 by omega] at this
      exact this
end PRG
