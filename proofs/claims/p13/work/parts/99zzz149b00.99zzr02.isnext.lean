/-! The class's game, exactly: is it the next state. -/
section GAX
variable {G : mG} {d z g p O P K V F L cnt U w9 Ab Be C Ab0 Be0 C0 cn k : Nat} {M0 M : mM} {ns : Nat → Int} {sf ef : Nat → Nat}
theorem x_Ga_isNext (hx : GY U w9 M0 z g p O P K V F ns sf ef L cnt Ab0 Be0 C0 M Ab Be C) (hk : k < 512) : Ci G y_Ga_isNext d [vr g, vi k] M (fun r M' => M' = M ∧ (r = 0 ∨ r = 1) ∧ (r = 1 ↔ ∀ v, v < V → mI M (g + 1) (12 * k + v) = mI M (g + 10 + 2) v)) := by
  obtain ⟨h1, h2, h3, h4, h5, -⟩ := hx
  obtain ⟨g0, ⟨g1, -, -, -, -, -, -, -, -, g15, -⟩, ⟨k1, -⟩, ⟨n1, -⟩⟩ := h2
  obtain ⟨p5, p6⟩ := h4.2.2.1
  have m0 := h3.1
  have m5 := h3.2.1.2.1
  have km := h3.2.2.1.2.1
  have nm := h3.2.2.2.1.1
  refine k_Ga_isNext h1 (i32s (by omega) (by omega)) ?_
  suffices HH : ∀ (t i : Nat), V ≤ i + t → i ≤ V → (∀ v, v < i → mI M (g + 1) (12 * k + v) = mI M (g + 10 + 2) v) → h_Ga_isNext_2 G d g k i M (fun r M' => M' = M ∧ (r = 0 ∨ r = 1) ∧ (r = 1 ↔ ∀ v, v < V → mI M (g + 1) (12 * k + v) = mI M (g + 10 + 2) v)) from HH V 0 (by omega) (by omega) (fun v hv => absurd hv (by omega))
  intro t
  induction t with
  | zero =>
    intro i hi hi2 he
    refine k_Ga_isNext_2 h1 (i32s (by omega) (by omega)) (i32s (by omega) (by omega)) ?_
    rw [h5.1, p5]
    exact ⟨g0, h4.1.1, fun _ => ⟨rfl, Or.inr rfl, fun _ v hv => he v (by omega), fun _ => rfl⟩, fun y => absurd y (by omega)⟩
  | succ t ih =>
    intro i hi hi2 he
    refine k_Ga_isNext_2 h1 (i32s (by omega) (by omega)) (i32s (by omega) (by omega)) ?_
    have t1 : Int.toNat ((k : Int) * 12 + (i : Int)) = 12 * k + i := by omega
    rw [h5.1, p5, g1, n1, g15, m5, nm, t1, Int.toNat_natCast]
    refine ⟨g0, h4.1.1, fun y => ⟨rfl, Or.inr rfl, fun _ v hv => he v (by omega), fun _ => rfl⟩, fun y => ⟨k1, by omega, m0, km, by omega, fun e1 => ?_, fun e1 => ⟨rfl, Or.inl rfl, fun u => absurd u (by decide), fun u => absurd (u i (by omega)) e1⟩⟩⟩
    rw [show ((i : Int) + 1) = ((i + 1 : Nat) : Int) by omega]
    refine ih (i + 1) (by omega) (by omega) (fun v hv => ?_)
    by_cases y2 : v = i
    · rw [y2]; exact e1
    · exact he v (by omega)
end GAX
