/-! The class's words, exactly. -/
/-- the number that l digits from p on tell -/
def numq (c : Nat → Int) (p : Nat) : Nat → Int
  | 0 => 0
  | l + 1 => 10 * numq c p l + (c (p + l) - 48)
/-- a word as it stands in the class's tables -/
def wdx (kw : (Nat → Int) → Nat → Nat → Int) (c : Nat → Int) (N : Nat) (s st am : Int) (p : Nat) : Prop := s = csq (wkq (kw c) c N p) ∧ st = p ∧ (isL (c p) → am = (weq c N p : Int) - p) ∧ (isDq (c p) → wkq (kw c) c N p ≠ 39 → am = numq c p (weq c N p - p))
/-- what nameSort answers -/
def NSx (G : mG) (kw : (Nat → Int) → Nat → Nat → Int) : Prop := ∀ (d w T A B D N C p n : Nat) (M : mM), mOk M → WA M w T A B D N C → p + n ≤ N → 1 ≤ n → n ≤ 40 → Ci G y_Wo_nameSort (d + 5) [vr w, vi p, vi n] M (fun r M' => M' = M ∧ (2 ≤ r ∧ r ≤ 16 ∧ r ≠ 3) ∧ r = csq (kw (mI M T) p (p + n)))
/-- a word has been taken from place p on -/
def twX (kw : (Nat → Int) → Nat → Nat → Int) (M : mM) (w T A B D N C k p : Nat) (r : Int) (M' : mM) : Prop := twQ M w T A B D N C k p r M' ∧ (∃ s am : Int, wdx kw (mI M T) N s p am p ∧ (∀ i, mI M' A i = if i = k then s else mI M A i) ∧ (∀ i, mI M' B i = if i = k then (p : Int) else mI M B i) ∧ (∀ i, mI M' D i = if i = k then am else mI M D i)) ∧ (wkq (kw (mI M T)) (mI M T) N p = 39 → r = N) ∧ (wkq (kw (mI M T)) (mI M T) N p ≠ 39 → r = weq (mI M T) N p)
/-- long and short signs, by the class's numbers -/
def lsg (x y : Int) : Int := if x = 46 ∧ y = 46 then 17 else if x = 45 ∧ y = 62 then 18 else if y = 61 then (if x = 33 then 19 else if x = 60 then 20 else if x = 62 then 21 else 1) else 1
def ssg (x : Int) : Int := if x = 33 then 32 else if x = 37 then 29 else if x = 38 then 30 else if x = 39 then 39 else if x = 40 then 37 else if x = 41 then 38 else if x = 42 then 27 else if x = 43 then 25 else if x = 44 then 36 else if x = 45 then 26 else if x = 47 then 28 else if x = 58 then 34 else if x = 59 then 35 else if x = 60 then 22 else if x = 61 then 24 else if x = 62 then 23 else if x = 63 then 33 else if x = 124 then 31 else 1
theorem sgn_two {x y y' : Int} (h : y' = y ∨ (y' = 32 ∧ y = 0)) : (lsg x y' ≠ 1 → csq (sgk x y) = lsg x y' ∧ 16 ≤ sgk x y ∧ sgk x y ≤ 20) ∧ (lsg x y' = 1 → csq (sgk x y) = ssg x ∧ ¬ (16 ≤ sgk x y ∧ sgk x y ≤ 20)) := by
  have hy : y = 46 ↔ y' = 46 := by omega
  have hy2 : y = 62 ↔ y' = 62 := by omega
  have hy3 : y = 61 ↔ y' = 61 := by omega
  unfold lsg ssg sgk csq
  by_cases e1 : x = 46
  · subst e1
    by_cases z : y' = 46
    · simp [hy.mpr z, z]
    · have : ¬ y = 46 := fun q => z (hy.mp q)
      simp [z, this]
  · by_cases e2 : x = 45
    · subst e2
      by_cases z : y' = 62
      · simp [hy2.mpr z, z]
      · have : ¬ y = 62 := fun q => z (hy2.mp q)
        simp [z, this]
    · by_cases e3 : x = 33
      · subst e3
        by_cases z : y' = 61
        · simp [hy3.mpr z, z]
        · have : ¬ y = 61 := fun q => z (hy3.mp q)
          simp [z, this]
      · by_cases e4 : x = 60
        · subst e4
          by_cases z : y' = 61
          · simp [hy3.mpr z, z]
          · have : ¬ y = 61 := fun q => z (hy3.mp q)
            simp [z, this]
        · by_cases e5 : x = 62
          · subst e5
            by_cases z : y' = 61
            · simp [hy3.mpr z, z]
            · have : ¬ y = 61 := fun q => z (hy3.mp q)
              simp [z, this]
          · simp only [e1, e2, e3, e4, e5, false_and, if_false, if_true]
            refine ⟨fun q => absurd (by split <;> rfl) q, fun _ => ?_⟩
            (repeat' split) <;> first | omega | (refine ⟨?_, ?_⟩ <;> omega)
section WXA
variable {G : mG} {d w T A B D N C k : Nat} {M M' M1 : mM} {kw : (Nat → Int) → Nat → Nat → Int}

theorem x_Wo_isLetter {x : Int} (hO : mOk M) (hx : i32 x) : Ci G y_Wo_isLetter d [vi x] M (fun r M' => M' = M ∧ (r = 0 ∨ r = 1) ∧ (r ≠ 0 ↔ isL x)) :=
  k_Wo_isLetter hO hx (fun v e => ⟨rfl, by rw [e]; split <;> omega, by rw [e]; unfold isL; split <;> omega⟩)
theorem x_Wo_longSign {x z : Int} (hO : mOk M) (hx : i32 x) (hz : i32 z) : Ci G y_Wo_longSign d [vi x, vi z] M (fun r M' => M' = M ∧ (r = 1 ∨ (17 ≤ r ∧ r ≤ 21 ∧ z ≠ 32)) ∧ r = lsg x z) := by
  refine k_Wo_longSign hO hx hz ⟨fun q => ⟨rfl, Or.inr (by omega), by unfold lsg; rw [if_pos q]⟩, fun q1 => ⟨fun q => ⟨rfl, Or.inr (by omega), by unfold lsg; rw [if_neg q1, if_pos q]⟩, fun q2 => ⟨fun q v e => ⟨rfl, ?_, by unfold lsg; rw [if_neg q1, if_neg q2, if_pos q]; exact e⟩, fun q => ⟨rfl, Or.inl rfl, by unfold lsg; rw [if_neg q1, if_neg q2, if_neg q]⟩⟩⟩⟩
  rw [e]
  (repeat' split) <;> omega
theorem x_Wo_shortSign {x : Int} (hO : mOk M) (hx : i32 x) : Ci G y_Wo_shortSign d [vi x] M (fun r M' => M' = M ∧ (1 ≤ r ∧ r ≤ 39 ∧ r ≠ 2 ∧ r ≠ 3) ∧ r = ssg x) := by
  refine k_Wo_shortSign hO hx ?_
  unfold ssg
  (repeat' first | (refine ⟨fun e => ⟨rfl, by omega, by rw [if_pos e]⟩, fun e => ?_⟩; rw [if_neg e]) | exact ⟨rfl, by omega, rfl⟩)
theorem x_Wo_afterBlanks {q : Nat} (hO : mOk M) (h : WA M w T A B D N C) (hq : q ≤ N) : Ci G y_Wo_afterBlanks d [vr w, vi q] M (fun r M' => M' = M ∧ r = (skp (mI M T) N q : Int)) := by
  obtain ⟨h1, ⟨p0, p3, p4, p5⟩, ⟨kT, nT⟩, -, -, h6, h7, h8, -⟩ := id h
  refine k_Wo_afterBlanks hO (i32s (by omega) (by omega)) ?_
  suffices H : ∀ (t j : Nat) (b : Int) (bb : Bool), N ≤ j + t → q ≤ j → j ≤ N → (b = 0 ∨ b = 1) → Hid (b ≠ 0 ↔ bb = true) → skp (mI M T) N q = skq (mI M T) (N - j) bb j → h_Wo_afterBlanks_4 G d w b j M (fun r M' => M' = M ∧ r = (skp (mI M T) N q : Int)) from H N q 0 false (by omega) (Nat.le_refl _) hq (Or.inl rfl) ⟨fun z => absurd rfl z, fun z => by cases z⟩ rfl
  intro t
  induction t with
  | zero =>
    intro j b bb hj hqj hjN hb hbb hX
    have e : j = N := by omega
    subst e
    rw [Nat.sub_self] at hX
    refine k_Wo_afterBlanks_4 hO (i32s (by omega) (by omega)) (i32s (by omega) (by omega)) ⟨h1, fun _ => ⟨rfl, by rw [hX, h6]; rfl⟩, fun z => absurd (by omega) z⟩
  | succ t ih =>
    intro j b bb hj hqj hjN hb hbb hX
    refine k_Wo_afterBlanks_4 hO (i32s (by omega) (by omega)) (i32s (by omega) (by omega)) ⟨h1, fun z => ?_, fun z => ?_⟩
    · have e : j = N := by omega
      subst e
      rw [Nat.sub_self] at hX
      exact ⟨rfl, by rw [hX, h6]; rfl⟩
    rw [p0, Int.toNat_natCast]
    have ej : N - j = (N - (j + 1)) + 1 := by omega
    rw [ej] at hX
    refine ⟨kT, by omega, fun v e => ?_⟩
    have key : (mI M T j = 35 ∨ (¬ b = 0 ∧ ¬ mI M T j = 10)) ↔ (mI M T j = 35 ∨ (bb = true ∧ mI M T j ≠ 10)) := by
      have := (show _ ↔ _ from hbb)
      exact or_congr Iff.rfl (and_congr this Iff.rfl)
    by_cases y : mI M T j = 35 ∨ (¬ b = 0 ∧ ¬ mI M T j = 10)
    · rw [if_pos y] at e
      rw [skq_rem (key.mp y)] at hX
      refine ⟨fun _ => ?_, fun z2 => absurd (Or.inl (by omega)) z2⟩
      rw [e]
      exact ih (j + 1) 1 true (by omega) (by omega) (by omega) (Or.inr rfl) ⟨fun _ => rfl, fun _ => by decide⟩ hX
    · rw [if_neg y] at e
      have y2 : ¬ (mI M T j = 35 ∨ (bb = true ∧ mI M T j ≠ 10)) := fun q2 => y (key.mpr q2)
      refine ⟨fun z2 => ?_, fun z2 => ?_⟩
      · have bl : blq (mI M T j) := by
          rcases z2 with z2 | z2
          · exact absurd e z2
          · exact z2
        rw [skq_bl y2 bl] at hX
        rw [e]
        exact ih (j + 1) 0 false (by omega) (by omega) (by omega) (Or.inl rfl) ⟨fun z3 => absurd rfl z3, fun z3 => by cases z3⟩ hX
      · have bl : ¬ blq (mI M T j) := fun q2 => z2 (Or.inr q2)
        rw [skq_end y2 bl] at hX
        exact ⟨rfl, by rw [hX]⟩
end WXA
