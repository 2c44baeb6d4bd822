section
/-- the number that l digits from p on tell -/
def numq (c : Nat → Int) (p : Nat) : Nat → Int
  | 0 => 0
  | l + 1 => 10 * numq c p l + (c (p + l) - 48)
/-- a word as it stands in the class's tables -/
def wdx (kw : (Nat → Int) → Nat → Nat → Int) (c : Nat → Int) (N : Nat) (s st am : Int) (p : Nat) : Prop := s = csq (wkq (kw c) c N p) ∧ st = p ∧ (isL (c p) → am = (weq c N p : Int) - p) ∧ (isDq (c p) → wkq (kw c) c N p ≠ 39 → am = numq c p (weq c N p - p))
/-- what nameSort answers -/
def NSx (G : mG) (kw : (Nat → Int) → Nat → Nat → Int) : Prop := ∀ (d w T A B D N C p n : Nat) (M : mM), mOk M → WA M w T A B D N C → p + n ≤ N → 1 ≤ n → n ≤ 40 → Ci G y_Wo_nameSort (d + 5) [vr w, vi p, vi n] M (fun r M' => M' = M ∧ (2 ≤ r ∧ r ≤ 16 ∧ r ≠ 3) ∧ r = csq (kw (mI M T) p (p + n)))
/-- a word has been taken from place p on -/
def twX (kw : (Nat → Int) → Nat → Nat → Int) (M : mM) (w T A B D N C k p : Nat) (r : Int) (M' : mM) : Prop := twQ M w T A B D N C k p r M' ∧ (∃ s am : Int, wdx kw (mI M T) N s p am p ∧ (∀ i, mI M' A i = if i = k then s else mI M A i) ∧ (∀ i, mI M' B i = if i = k then (p : Int) else mI M B i) ∧ (∀ i, mI M' D i = if i = k then am else mI M D i)) ∧ (wkq (kw (mI M T)) (mI M T) N p = 39 → r = N) ∧ (wkq (kw (mI M T)) (mI M T) N p ≠ 39 → r = weq (mI M T) N p)
/-- long and short signs, by the class's numbers -/
def lsg (x y : Int) : Int := if x = 46 ∧ y = 46 then 17 else if x = 45 ∧ y = 62 then 18 else if y = 61 then (if x = 33 then 19 else if x = 60 then 20 else if x = 62 then 21 else 1) else 1
def ssg (x : Int) : Int := if x = 33 then 32 else if x = 37 then 29 else if x = 38 then 30 else if x = 39 then 39 else if x = 40 then 37 else if x = 41 then 38 else if x = 42 then 27 else if x = 43 then 25 else if x = 44 then 36 else if x = 45 then 26 else if x = 47 then 28 else if x = 58 then 34 else if x = 59 then 35 else if x = 60 then 22 else if x = 61 then 24 else if x = 62 then 23 else if x = 63 then 33 else if x = 124 then 31 else 1
theorem sgn_two {x y y' : Int} (h : y' = y ∨ (y' = 32 ∧ y = 0)) : (lsg x y' ≠ 1 → csq (sgk x y) = lsg x y' ∧ 16 ≤ sgk x y ∧ sgk x y ≤ 20) ∧ (lsg x y' = 1 → csq (sgk x y) = ssg x ∧ ¬ (16 ≤ sgk x y ∧ sgk x y ≤ 20)) := by
  have hy : y = 46 ↔ y' = 46 := by omega
  have hy2 : y = 62 ↔ y' = 62 := by omega
  have hy3 : y = 61 ↔ y' = 61 := by omega
  unfold lsg ssg sgk csq
  by_cases e1 : x = 46
  · subst e1
    by_cases z : y' = 46
    · simp [hy.mpr z, z]
    · have : ¬ y = 46 := fun q => z (hy.mp q)
      simp [z, this]
  · by_cases e2 : x = 45
    · subst e2
      by_cases z : y' = 62
      · simp [hy2.mpr z, z]
      · have : ¬ y = 62 := fun q => z (hy2.mp q)
        simp [z, this]
    · by_cases e3 : x = 33
      · subst e3
        by_cases z : y' = 61
        · simp [hy3.mpr z, z]
        · have : ¬ y = 61 := fun q => z (hy3.mp q)
          simp [z, this]
      · by_cases e4 : x = 60
        · subst e4
          by_cases z : y' = 61
          · simp [hy3.mpr z, z]
          · have : ¬ y = 61 := fun q => z (hy3.mp q)
            simp [z, this]
        · by_cases e5 : x = 62
          · subst e5
            by_cases z : y' = 61
            · simp [hy3.mpr z, z]
            · have : ¬ y = 61 := fun q => z (hy3.mp q)
              simp [z, this]
          · simp only [e1, e2, e3, e4, e5, false_and, if_false, if_true]
            refine ⟨fun q => absurd (by split <;> rfl) q, fun _ => ?_⟩
            clear h hy hy2 hy3
            by_cases f1 : x = 61
            · subst f1; decide +kernel
            by_cases f2 : x = 43
            · subst f2; decide +kernel
            by_cases f3 : x = 42
            · subst f3; decide +kernel
            by_cases f4 : x = 47
            · subst f4; decide +kernel
            by_cases f5 : x = 37
            · subst f5; decide +kernel
            by_cases f6 : x = 38
            · subst f6; decide +kernel
            by_cases f7 : x = 124
            · subst f7; decide +kernel
            by_cases f8 : x = 63
            · subst f8; decide +kernel
            by_cases f9 : x = 58
            · subst f9; decide +kernel
            by_cases f10 : x = 59
            · subst f10; decide +kernel
            by_cases f11 : x = 44
            · subst f11; decide +kernel
            by_cases f12 : x = 40
            · subst f12; decide +kernel
            by_cases f13 : x = 41
            · subst f13; decide +kernel
            by_cases f14 : x = 39
            · subst f14; decide +kernel
            simp only [f1, f2, f3, f4, f5, f6, f7, f8, f9, f10, f11, f12, f13, f14, if_false]
            all_goals decide +kernel
end
