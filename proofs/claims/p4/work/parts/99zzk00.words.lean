/-! THE CLASS: its words. -/
section WO
variable {G : mG} {d w T A B D N C k : Nat} {M M' M1 : mM}
/-- the words' places: T the tape, N characters; A sorts, B starts, D amounts, all of C places -/
def WA (M : mM) (w T A B D N C : Nat) : Prop := mK M w = 2 ∧ (mR M w 0 = T ∧ mR M w 3 = A ∧ mR M w 4 = B ∧ mR M w 5 = D) ∧ (mK M T = 32 ∧ N ≤ mN M T) ∧ (mK M A = 30 ∧ mK M B = 30 ∧ mK M D = 30) ∧ (mN M A = C ∧ mN M B = C ∧ mN M D = C) ∧ mI M w 1 = N ∧ N ≤ 16384 ∧ N + 2 ≤ C ∧ (A ≠ B ∧ A ≠ D ∧ B ≠ D)
def woA (w A B D : Nat) : Nat → Prop := fun x => x = w ∨ x = A ∨ x = B ∨ x = D
/-- a word that may stand -/
def wdk (N : Nat) (s st am : Int) : Prop := (1 ≤ s ∧ s ≤ 39) ∧ (0 ≤ st ∧ st < N) ∧ (s = 2 → 1 ≤ am ∧ am ≤ 40 ∧ st + am ≤ N) ∧ (s = 3 → 0 ≤ am ∧ am ≤ 999999999)
/-- k words have been taken -/
def WI (M : mM) (w A B D N k : Nat) : Prop := mI M w 2 = k ∧ ∀ i, i < k → wdk N (mI M A i) (mI M B i) (mI M D i)
theorem WA.fi (h : WA M w T A B D N C) (f : FI (woA w A B D) M M') (h1 : mI M' w 1 = mI M w 1) : WA M' w T A B D N C := by
  obtain ⟨f1, f2, f3, -⟩ := f
  unfold WA at h ⊢
  rw [f1, f2, f3, h1]
  exact h
theorem WA.ne (h : WA M w T A B D N C) : w ≠ A ∧ w ≠ B ∧ w ≠ D ∧ T ≠ w ∧ T ≠ A ∧ T ≠ B ∧ T ≠ D := by
  obtain ⟨h1, -, ⟨h2, -⟩, ⟨h3, h4, h5⟩, -⟩ := h
  refine ⟨fun e => ?_, fun e => ?_, fun e => ?_, fun e => ?_, fun e => ?_, fun e => ?_, fun e => ?_⟩ <;> subst e <;> omega
theorem s_Wo_isLetter {x : Int} (hO : mOk M) (hx : i32 x) : Ci G y_Wo_isLetter d [vi x] M (fun r M' => M' = M ∧ (r = 0 ∨ r = 1)) :=
  k_Wo_isLetter hO hx (fun v e => ⟨rfl, by rw [e]; split <;> omega⟩)
theorem s_Wo_isDigit {x : Int} (hO : mOk M) (hx : i32 x) : Ci G y_Wo_isDigit d [vi x] M (fun r M' => M' = M ∧ (r = 0 ∨ r = 1) ∧ (r ≠ 0 ↔ 48 ≤ x ∧ x ≤ 57)) :=
  k_Wo_isDigit hO hx (fun v e => by
    by_cases y : x < 48 ∨ 57 < x
    · rw [if_pos y] at e
      exact ⟨rfl, by omega, by omega⟩
    · rw [if_neg y] at e
      exact ⟨rfl, by omega, by omega⟩)
theorem s_Wo_longSign {x z : Int} (hO : mOk M) (hx : i32 x) (hz : i32 z) : Ci G y_Wo_longSign d [vi x, vi z] M (fun r M' => M' = M ∧ (r = 1 ∨ (17 ≤ r ∧ r ≤ 21 ∧ z ≠ 32))) := by
  refine k_Wo_longSign hO hx hz ⟨fun q => ⟨rfl, Or.inr (by omega)⟩, fun _ => ⟨fun q => ⟨rfl, Or.inr (by omega)⟩, fun _ => ⟨fun q v e => ⟨rfl, ?_⟩, fun _ => ⟨rfl, Or.inl rfl⟩⟩⟩⟩
  rw [e]
  (repeat' split) <;> omega
theorem s_Wo_shortSign {x : Int} (hO : mOk M) (hx : i32 x) : Ci G y_Wo_shortSign d [vi x] M (fun r M' => M' = M ∧ 1 ≤ r ∧ r ≤ 39 ∧ r ≠ 2 ∧ r ≠ 3) := by
  refine k_Wo_shortSign hO hx ?_
  (repeat' first | (refine ⟨fun _ => ⟨rfl, by omega, by omega, by omega, by omega⟩, fun _ => ?_⟩) | exact ⟨rfl, by omega, by omega, by omega, by omega⟩)
theorem s_Wo_add {s st am : Int} (hs : i32 s) (hst : i32 st) (ham : i32 am) (hO : mOk M) (h : WA M w T A B D N C) (hk : mI M w 2 = k) (hC : k < C) (hC2 : C ≤ 16777216) : Cv G y_Wo_add d [vr w, vi s, vi st, vi am] M (fun M' => mOk M' ∧ FI (woA w A B D) M M' ∧ WA M' w T A B D N C ∧ mI M' w 2 = k + 1 ∧ (∀ i, mI M' A i = if i = k then s else mI M A i) ∧ (∀ i, mI M' B i = if i = k then st else mI M B i) ∧ (∀ i, mI M' D i = if i = k then am else mI M D i)) := by
  obtain ⟨n1, n2, n3, -⟩ := h.ne
  obtain ⟨h1, ⟨p0, p3, p4, p5⟩, h3, ⟨k3, k4, k5⟩, ⟨c3, c4, c5⟩, h6, h7, h8, ⟨d1, d2, d3⟩⟩ := id h
  refine k_Wo_add hO hs hst ham ?_
  rw [p3, c3]
  refine ⟨h1, k3, by omega, fun M4 e4 => ?_⟩
  have a4 : mI M4 w = mI M w := by rw [e4]; funext j; rw [mI_UI, if_neg (fun z => n1 z.1)]
  have R4 : mR M4 = mR M := by rw [e4]; rfl
  have N4 : mN M4 = mN M := by rw [e4]; rfl
  have K4 : mK M4 = mK M := by rw [e4]; rfl
  rw [R4, K4, N4, p4, a4, hk, Int.toNat_natCast, c4]
  refine ⟨k4, by omega, fun M8 e8 => ?_⟩
  have a8 : mI M8 w = mI M w := by rw [e8]; funext j; rw [mI_UI, if_neg (fun z => n2 z.1), a4]
  have R8 : mR M8 = mR M := by rw [e8]; exact R4
  have N8 : mN M8 = mN M := by rw [e8]; exact N4
  have K8 : mK M8 = mK M := by rw [e8]; exact K4
  rw [R8, K8, N8, p5, a8, hk, Int.toNat_natCast, c5]
  refine ⟨k5, by omega, fun M12 e12 => ?_⟩
  have a12 : mI M12 w = mI M w := by rw [e12]; funext j; rw [mI_UI, if_neg (fun z => n3 z.1), a8]
  rw [a12, hk]
  refine ⟨⟨by omega, by omega⟩, fun M15 e15 => ?_⟩
  rw [hk, Int.toNat_natCast] at e4
  have fi : FI (woA w A B D) M M15 := by
    have g4 : FI (woA w A B D) M M4 := by rw [e4]; exact FI.ui (Or.inr (Or.inl rfl))
    have g8 : FI (woA w A B D) M4 M8 := by rw [e8]; exact FI.ui (Or.inr (Or.inr (Or.inl rfl)))
    have g12 : FI (woA w A B D) M8 M12 := by rw [e12]; exact FI.ui (Or.inr (Or.inr (Or.inr rfl)))
    have g15 : FI (woA w A B D) M12 M15 := by rw [e15]; exact FI.ui (Or.inl rfl)
    exact ((g4.trans g8).trans g12).trans g15
  have oO : mOk M15 := by
    have o4 : mOk M4 := by rw [e4]; exact mOk_UI hO hs
    have o8 : mOk M8 := by rw [e8]; exact mOk_UI o4 hst
    have o12 : mOk M12 := by rw [e12]; exact mOk_UI o8 ham
    rw [e15]; exact mOk_UI o12 (⟨by omega, by omega⟩)
  refine ⟨oO, fi, h.fi fi (by rw [e15, mI_UI, if_neg (fun z => absurd z.2 (by decide)), a12]), by rw [e15, mI_UI, if_pos ⟨rfl, rfl⟩], fun i => ?_, fun i => ?_, fun i => ?_⟩
  · rw [e15, mI_UI, if_neg (fun z => n1 z.1.symm), e12, mI_UI, if_neg (fun z => d2 z.1), e8, mI_UI, if_neg (fun z => d1 z.1), e4, mI_UI]
    by_cases y : i = k
    · rw [if_pos y, if_pos ⟨rfl, y⟩]
    · rw [if_neg y, if_neg (fun z => y z.2)]
  · rw [e15, mI_UI, if_neg (fun z => n2 z.1.symm), e12, mI_UI, if_neg (fun z => d3 z.1), e8, mI_UI]
    by_cases y : i = k
    · rw [if_pos y, if_pos ⟨rfl, y⟩]
    · rw [if_neg y, if_neg (fun z => y z.2), e4, mI_UI, if_neg (fun z => d1 z.1.symm)]
  · rw [e15, mI_UI, if_neg (fun z => n3 z.1.symm), e12, mI_UI]
    by_cases y : i = k
    · rw [if_pos y, if_pos ⟨rfl, y⟩]
    · rw [if_neg y, if_neg (fun z => y z.2), e8, mI_UI, if_neg (fun z => d3 z.1.symm), e4, mI_UI, if_neg (fun z => d2 z.1.symm)]
/-- a word is added -/
theorem WI.add {s st am : Int} (h : WI M w A B D N k) (hw : wdk N s st am) (h2 : mI M' w 2 = k + 1) (hA : ∀ i, mI M' A i = if i = k then s else mI M A i) (hB : ∀ i, mI M' B i = if i = k then st else mI M B i) (hD : ∀ i, mI M' D i = if i = k then am else mI M D i) : WI M' w A B D N (k + 1) := by
  refine ⟨by rw [h2]; rfl, fun i hi => ?_⟩
  rw [hA, hB, hD]
  by_cases y : i = k
  · rw [if_pos y, if_pos y, if_pos y]
    exact hw
  · rw [if_neg y, if_neg y, if_neg y]
    exact h.2 i (by omega)
theorem s_Wo_afterBlanks {q : Nat} (hO : mOk M) (h : WA M w T A B D N C) (hq : q ≤ N) : Ci G y_Wo_afterBlanks d [vr w, vi q] M (fun r M' => M' = M ∧ ∃ j : Nat, r = j ∧ q ≤ j ∧ j ≤ N) := by
  obtain ⟨h1, ⟨p0, p3, p4, p5⟩, ⟨kT, nT⟩, -, -, h6, h7, h8, -⟩ := id h
  refine k_Wo_afterBlanks hO (i32s (by omega) (by omega)) ?_
  suffices H : ∀ (t j : Nat) (b : Int), N ≤ j + t → q ≤ j → j ≤ N → (b = 0 ∨ b = 1) → h_Wo_afterBlanks_4 G d w b j M (fun r M' => M' = M ∧ ∃ j : Nat, r = j ∧ q ≤ j ∧ j ≤ N) from H N q 0 (by omega) (Nat.le_refl _) hq (Or.inl rfl)
  intro t
  induction t with
  | zero =>
    intro j b hj hqj hjN hb
    refine k_Wo_afterBlanks_4 hO (i32s (by omega) (by omega)) (i32s (by omega) (by omega)) ⟨h1, fun _ => ⟨rfl, N, h6, by omega, Nat.le_refl _⟩, fun z => absurd (by omega) z⟩
  | succ t ih =>
    intro j b hj hqj hjN hb
    refine k_Wo_afterBlanks_4 hO (i32s (by omega) (by omega)) (i32s (by omega) (by omega)) ⟨h1, fun _ => ⟨rfl, N, h6, by omega, Nat.le_refl _⟩, fun z => ?_⟩
    rw [p0]
    refine ⟨kT, by omega, fun v e => ⟨fun _ => ?_, fun _ => ⟨rfl, j, rfl, hqj, hjN⟩⟩⟩
    have ev : v = 0 ∨ v = 1 := by rw [e]; split <;> omega
    exact ih (j + 1) v (by omega) (by omega) (by omega) ev
end WO
