section
section
variable {G : mG} {d w T A B D N C k : Nat} {M M' M1 : mM} {kw : (Nat → Int) → Nat → Nat → Int}

theorem x_Wo_isLetter {x : Int} (hO : mOk M) (hx : i32 x) : Ci G y_Wo_isLetter d [vi x] M (fun r M' => M' = M ∧ (r = 0 ∨ r = 1) ∧ (r ≠ 0 ↔ isL x)) :=
  k_Wo_isLetter hO hx (fun v e => ⟨rfl, by rw [e]; split <;> omega, by rw [e]; unfold isL; split <;> omega⟩)
theorem x_Wo_longSign {x z : Int} (hO : mOk M) (hx : i32 x) (hz : i32 z) : Ci G y_Wo_longSign d [vi x, vi z] M (fun r M' => M' = M ∧ (r = 1 ∨ (17 ≤ r ∧ r ≤ 21 ∧ z ≠ 32)) ∧ r = lsg x z) := by
  refine k_Wo_longSign hO hx hz ⟨fun q => ⟨rfl, Or.inr (by omega), by unfold lsg; rw [if_pos q]⟩, fun q1 => ⟨fun q => ⟨rfl, Or.inr (by omega), by unfold lsg; rw [if_neg q1, if_pos q]⟩, fun q2 => ⟨fun q v e => ⟨rfl, ?_, by unfold lsg; rw [if_neg q1, if_neg q2, if_pos q]; exact e⟩, fun q => ⟨rfl, Or.inl rfl, by unfold lsg; rw [if_neg q1, if_neg q2, if_neg q]⟩⟩⟩⟩
  rw [e]
  (repeat' split) <;> omega
theorem x_Wo_shortSign {x : Int} (hO : mOk M) (hx : i32 x) : Ci G y_Wo_shortSign d [vi x] M (fun r M' => M' = M ∧ (1 ≤ r ∧ r ≤ 39 ∧ r ≠ 2 ∧ r ≠ 3) ∧ r = ssg x) := by
  refine k_Wo_shortSign hO hx ?_
  unfold ssg
  (repeat' first | (refine ⟨fun e => ⟨rfl, by omega, by rw [if_pos e]⟩, fun e => ?_⟩; rw [if_neg e]) | exact ⟨rfl, by omega, rfl⟩)
theorem x_Wo_afterBlanks {q : Nat} (hO : mOk M) (h : WA M w T A B D N C) (hq : q ≤ N) : Ci G y_Wo_afterBlanks d [vr w, vi q] M (fun r M' => M' = M ∧ r = (skp (mI M T) N q : Int)) := by
  obtain ⟨h1, ⟨p0, p3, p4, p5⟩, ⟨kT, nT⟩, -, -, h6, h7, h8, -⟩ := id h
  refine k_Wo_afterBlanks hO (i32s (by omega) (by omega)) ?_
  suffices H : ∀ (t j : Nat) (b : Int) (bb : Bool), N ≤ j + t → q ≤ j → j ≤ N → (b = 0 ∨ b = 1) → Hid (b ≠ 0 ↔ bb = true) → skp (mI M T) N q = skq (mI M T) (N - j) bb j → h_Wo_afterBlanks_4 G d w b j M (fun r M' => M' = M ∧ r = (skp (mI M T) N q : Int)) from H N q 0 false (by omega) (Nat.le_refl _) hq (Or.inl rfl) ⟨fun z => absurd rfl z, fun z => by cases z⟩ rfl
  intro t
  induction t with
  | zero =>
    intro j b bb hj hqj hjN hb hbb hX
    have e : j = N := by omega
    subst e
    rw [Nat.sub_self] at hX
    refine k_Wo_afterBlanks_4 hO (i32s (by omega) (by omega)) (i32s (by omega) (by omega)) ⟨h1, fun _ => ⟨rfl, by rw [hX, h6]; rfl⟩, fun z => absurd (by omega) z⟩
  | succ t ih =>
    intro j b bb hj hqj hjN hb hbb hX
    refine k_Wo_afterBlanks_4 hO (i32s (by omega) (by omega)) (i32s (by omega) (by omega)) ⟨h1, fun z => ?_, fun z => ?_⟩
    · have e : j = N := by omega
      subst e
      rw [Nat.sub_self] at hX
      exact ⟨rfl, by rw [hX, h6]; rfl⟩
    rw [p0, Int.toNat_natCast]
    have ej : N - j = (N - (j + 1)) + 1 := by omega
    rw [ej] at hX
    refine ⟨kT, by omega, fun v e => ?_⟩
    have key : (mI M T j = 35 ∨ (¬ b = 0 ∧ ¬ mI M T j = 10)) ↔ (mI M T j = 35 ∨ (bb = true ∧ mI M T j ≠ 10)) := by
      have := (show _ ↔ _ from hbb)
      exact or_congr Iff.rfl (and_congr this Iff.rfl)
    by_cases y : mI M T j = 35 ∨ (¬ b = 0 ∧ ¬ mI M T j = 10)
    · rw [if_pos y] at e
      rw [skq_rem (key.mp y)] at hX
      refine ⟨fun _ => ?_, fun z2 => absurd (Or.inl (by omega)) z2⟩
      rw [e]
      exact ih (j + 1) 1 true (by omega) (by omega) (by omega) (Or.inr rfl) ⟨fun _ => rfl, fun _ => by decide⟩ hX
    · rw [if_neg y] at e
      have y2 : ¬ (mI M T j = 35 ∨ (bb = true ∧ mI M T j ≠ 10)) := fun q2 => y (key.mpr q2)
      refine ⟨fun z2 => ?_, fun z2 => ?_⟩
      · have bl : blq (mI M T j) := by
          rcases z2 with z2 | z2
          · exact absurd e z2
          · exact z2
        rw [skq_bl y2 bl] at hX
        rw [e]
        exact ih (j + 1) 0 false (by omega) (by omega) (by omega) (Or.inl rfl) ⟨fun z3 => absurd rfl z3, fun z3 => by cases z3⟩ hX
      · have bl : ¬ blq (mI M T j) := fun q2 => z2 (Or.inr q2)
        rw [skq_end y2 bl] at hX
        exact ⟨rfl, by rw [hX]⟩
end
end
