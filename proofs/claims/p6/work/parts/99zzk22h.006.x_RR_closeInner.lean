section
variable {G : mG} {d z r w T A B D N C n p O P K k a s L V F d0 c : Nat} {M0 M M' M1 M2 M110 M126 M133 : mM} {H H' : Nat → Nat} {ns : Nat → Int} {wt : Int} {u : Ru} {c9 c8 L1 : Nat} {H1 : Nat → Nat}
theorem x_RR_closeInner {l1 : Int} (i1 : i32 l1) (g : RG M r p O P n s V F ns d0 H L (k + 1) a 0) (h : RB M z r w T A B D N C n p O P K) (han : a < n) (ho : mI M (r + 1) k = 37 ∨ mI M (r + 1) k = 15 ∨ mI M (r + 1) k = 16 ∨ mI M (r + 1) k = 33) (v : RW0 u M r O P s c9 c8 L a) (hl1 : Hid (ruW u a = 37 ↔ l1 = 38)) (hl2 : Hid (ruW u a = 35 ↔ l1 = 36)) (hl3 : Hid (ruW u a = 33 ↔ l1 = 34)) (hc9 : c9 ≤ 6) (hm9 : lwx (ruW u a) = 0) : Ci G y_RR_closeInner (d + 1) [vr r, vi l1, vi k] M (fun x M' => cliQ M z r w T A B D N C n p O P K s V F ns d0 L a x M' ∧ clV u r p O P s a x M') := by
  have rm := g.room
  have hk := g.1.2.1
  obtain ⟨-, ⟨k0, ⟨q8, -, -, q11, -⟩, ⟨kk1, -⟩, ⟨nn1, -⟩⟩, -⟩ := id h
  refine k_RR_closeInner h.1 i1 ⟨by omega, by omega⟩ ?_
  rw [q8, nn1, Int.toNat_natCast, q11]
  refine ⟨k0, kk1, by omega, fun v5 e5 => ⟨by omega, fun _ => by omega, fun v14 e14 v25 e25 => ⟨fun y => ⟨fun y5 => ?_, fun y5 => ?_⟩, fun y => ⟨⟨h, FI.refl, fun _ _ _ _ _ _ _ _ => rfl, fun _ => rfl, fun _ _ _ => rfl, fun _ _ => rfl, fun _ _ => ⟨rfl, rfl⟩, Or.inl ⟨rfl, rfl⟩⟩, Or.inl ⟨rfl, ?_⟩⟩⟩⟩⟩
  · have n33 : mI M (r + 1) k ≠ 33 := fun q => by rw [if_pos q] at e5; omega
    by_cases y15 : mI M (r + 1) k = 15 ∨ mI M (r + 1) k = 16
    · rw [if_pos y15] at e14
      subst e14
      have b25 : v25 = 0 ∨ v25 = 1 := by rw [e25]; split <;> omega
      have c25 : v25 = 1 ↔ l1 = 36 := by
        rw [e25]
        split <;> omega
      refine x_ciList g h han y15 b25 v (fun q => (show _ ↔ _ from hl1).mpr ?_) (fun q => (show _ ↔ _ from hl2).mpr (c25.mp q)) hc9
      rcases y with y | y
      · exact absurd q y
      · exact y.2
    · rw [if_neg y15] at e14
      rw [if_pos (Or.inl ⟨y5, Or.inl e14⟩)] at e25
      subst e14 e25
      refine x_ciOpen h g han (by omega) v ((show _ ↔ _ from hl1).mpr ?_) hc9
      rcases y with y | y
      · exact absurd rfl y
      · exact y.2
  · have y33 : mI M (r + 1) k = 33 := Classical.byContradiction (fun q => y5 (by rw [e5, if_neg q]))
    have z14 : v14 = 0 := by rw [e14, if_neg (by omega)]
    have b25 : v25 = 0 ∨ v25 = 1 := by rw [e25]; split <;> omega
    have z25 : v25 = 1 := by
      rcases y with q | q
      · omega
      · exact absurd q.1 y5
    have c34 : l1 = 34 := by
      refine Classical.byContradiction (fun q => ?_)
      rw [if_pos (Or.inr ⟨y5, q, Or.inl z14⟩)] at e25
      omega
    rw [z14, z25]
    exact x_ciElse h g han y33 v ((show _ ↔ _ from hl3).mpr c34) hc9
  · have b25 : v25 = 0 := Classical.byContradiction (fun q => y (Or.inl q))
    refine v.shut (k := k) (by rw [hk]; rfl) rfl ho (Or.inl (by omega)) (fun q w37 => ?_) (fun q => ⟨fun w37 => ?_, fun w35 => ?_⟩) (fun q w33 => ?_)
    · rw [if_neg (by omega)] at e5
      exact y (Or.inr ⟨e5, (show _ ↔ _ from hl1).mp w37⟩)
    · rw [if_neg (by omega)] at e5
      exact y (Or.inr ⟨e5, (show _ ↔ _ from hl1).mp w37⟩)
    · rw [if_neg (by omega)] at e5
      rw [if_pos q] at e14
      have := (show _ ↔ _ from hl2).mp w35
      rw [if_neg (by omega)] at e25
      omega
    · rw [if_pos q] at e5
      have := (show _ ↔ _ from hl3).mp w33
      rw [if_neg (by omega)] at e25
      omega
end
