/-! The class's reader of rules: takeOperator. -/
section RRK
variable {G : mG} {d z r w T A B D N C n p O P K k a s L L1 V F d0 c : Nat} {M0 M M' M1 M2 : mM} {H H1 : Nat → Nat} {ns : Nat → Int} {wt : Int}
/-- what reading a rule may change -/
def rrF (M : mM) (r p O P s : Nat) (M' : mM) : Prop := FI (rdS r p O P) M M' ∧ (∀ i, i ≠ 2 → i ≠ 3 → i ≠ 4 → i ≠ 5 → i ≠ 7 → i ≠ 12 → i ≠ 14 → mI M' r i = mI M r i) ∧ (mI M r 3 ≠ 0 → mI M' r 3 = mI M r 3) ∧ (∀ i, 6 ≤ i → i ≤ 9 → mI M' (r + i) = mI M (r + i)) ∧ (∀ i, i ≠ 2 → mI M' p i = mI M p i) ∧ (∀ i, i < s → mI M' O i = mI M O i ∧ mI M' P i = mI M P i)
theorem rrF.refl : rrF M r p O P s M := ⟨FI.refl, fun _ _ _ _ _ _ _ _ => rfl, fun _ => rfl, fun _ _ _ => rfl, fun _ _ => rfl, fun _ _ => ⟨rfl, rfl⟩⟩
theorem rrF.trans (f : rrF M0 r p O P s M) (g : rrF M r p O P s M') : rrF M0 r p O P s M' := by
  obtain ⟨a1, a2, a3, a4, a5, a6⟩ := f
  obtain ⟨b1, b2, b3, b4, b5, b6⟩ := g
  refine ⟨a1.trans b1, fun i i2 i3 i4 i5 i7 i12 i14 => by rw [b2 i i2 i3 i4 i5 i7 i12 i14, a2 i i2 i3 i4 i5 i7 i12 i14], fun q => ?_, fun i i6 i9 => by rw [b4 i i6 i9, a4 i i6 i9], fun i i2 => by rw [b5 i i2, a5 i i2], fun i hi => ⟨by rw [(b6 i hi).1, (a6 i hi).1], by rw [(b6 i hi).2, (a6 i hi).2]⟩⟩
  have h3 := a3 q
  rw [b3 (by rw [h3]; exact q), h3]
/-- what a step comes to: 0 it goes on, 1 the rule is over, 2 a word is refused -/
def rtQ (M0 : mM) (z r w T A B D N C n p O P K s V F : Nat) (ns : Nat → Int) (d0 : Nat) (a : Nat) (x : Int) (M' : mM) : Prop := RB M' z r w T A B D N C n p O P K ∧ rrF M0 r p O P s M' ∧ (x = 0 ∨ x = 1 ∨ x = 2) ∧ ∃ H' L' k' wt' a', RG M' r p O P n s V F ns d0 H' L' k' a' wt' ∧ a ≤ a' ∧ (x = 1 → k' = 0 ∧ wt' = 0)
theorem RG.ref (g : RG M r p O P n s V F ns d0 H L k a wt) : ∃ a' L' : Nat, mI M r 2 = a' ∧ mI M p 2 = L' ∧ a' ≤ n ∧ s ≤ L' ∧ L' ≤ a' := by
  obtain ⟨⟨g1, -, -, g4⟩, -, ⟨g5, g6⟩, -, -, -, -, -, -, g7, -⟩ := g
  exact ⟨a, L, g1, g4, g5, g6, by omega⟩
theorem sg_st {x : Int} (g : RG M r p O P n s V F ns d0 H L k a 0) (f : rrF M0 r p O P s M) (q : sgQ M z r w T A B D N C n p O P K s V F ns d0 H L k a x M') : rtQ M0 z r w T A B D N C n p O P K s V F ns d0 a x M' := by
  obtain ⟨q1, q2, q3, q4, q5, q6, q7⟩ := q
  have gs := g.2.2.1.2
  refine ⟨q1, f.trans ⟨q2, fun i i2 i3 i4 i5 i7 i12 i14 => q3 i i2 i5 i7 i12 i14, fun _ => q3 3 (by decide) (by decide) (by decide) (by decide) (by decide), q4, q5, fun i hi => q6 i (by omega)⟩, ?_⟩
  rcases q7 with ⟨e, e2⟩ | ⟨e, H', L', g', -⟩
  · rw [e2]
    exact ⟨Or.inr (Or.inr e), H, L, k, 0, a, g, by omega, fun u => absurd u (by omega)⟩
  · exact ⟨Or.inl e, H', L', k + 1, 1, a + 1, g', by omega, fun u => absurd u (by omega)⟩
theorem s_RR_closeInner0 (g : RG M r p O P n s V F ns d0 H L (k + 1) a 0) (h : RB M z r w T A B D N C n p O P K) : Ci G y_RR_closeInner (d + 1) [vr r, vi 0, vi k] M (fun x M' => x = 2 ∧ M' = M) := by
  have rm := g.room
  obtain ⟨-, ⟨k0, ⟨q8, -, -, q11, -⟩, ⟨kk1, -⟩, ⟨nn1, -⟩⟩, -⟩ := id h
  refine k_RR_closeInner h.1 (i32s (by omega) (by omega)) ⟨by omega, by omega⟩ ?_
  rw [q8, nn1, Int.toNat_natCast, q11]
  refine ⟨k0, kk1, by omega, fun v5 e5 => ⟨by omega, fun _ => by omega, fun v14 e14 v25 e25 => ⟨fun y => ?_, fun _ => ⟨rfl, rfl⟩⟩⟩⟩
  exfalso
  have z25 : v25 = 0 := by
    rw [e25]
    by_cases u : v5 = 0
    · rw [if_pos (Or.inl ⟨u, Or.inr (by omega)⟩)]
    · rw [if_pos (Or.inr ⟨u, by omega, Or.inr (by omega)⟩)]
  rcases y with u | u
  · exact u z25
  · exact absurd u.2 (by omega)
theorem g_rrF {M9 : mM} (q : gQ M z r w T A B D N C n p O P K s V F ns d0 H L k a M9) : rrF M r p O P s M9 := by
  obtain ⟨-, q2, q3, q4, q5, q6, q7, -⟩ := q
  exact ⟨q2, fun i i2 i3 i4 i5 i7 i12 i14 => q3 i i3 i4 i5 i12 i14, q4, q5, q6, q7⟩
theorem s_to112 {o : Int} (io : i32 o) (e0 : a = n → o = 0) : ∀ (k : Nat) (M : mM) (H : Nat → Nat) (L : Nat), RB M z r w T A B D N C n p O P K → rrF M0 r p O P s M → RG M r p O P n s V F ns d0 H L k a 0 → (0 < k → lvl (mI M (r + 1) (k - 1)) = 0) → h_RR_takeOperator_112 G (d + 1) r o M (rtQ M0 z r w T A B D N C n p O P K s V F ns d0 a)
  | 0, M, H, L, h, f, g, _ => by
    have g2 := g.1.2.1
    refine k_RR_takeOperator_112 h.1 io ⟨h.2.1.1, fun y => absurd y (by omega), fun _ => ⟨fun _ => ⟨h, f, Or.inr (Or.inl rfl), H, L, 0, 0, a, g, by omega, fun _ => ⟨rfl, rfl⟩⟩, fun y => absurd y (by omega)⟩, fun y => absurd (Or.inl (by omega)) y⟩
  | k + 1, M, H, L, h, f, g, ht => by
    have g2 := g.1.2.1
    have rm := g.room
    have en := g.2.2.2.2.2.2.1 k (by omega)
    obtain ⟨-, ⟨k0, ⟨q8, -⟩, ⟨kk1, -⟩, ⟨nn1, -⟩⟩, -⟩ := id h
    have l0 := ht (by omega)
    rw [show k + 1 - 1 = k by omega] at l0
    refine k_RR_takeOperator_112 h.1 io ?_
    rw [g2, q8, nn1, show (((k + 1 : Nat) : Int) - 1).toNat = k by omega]
    refine ⟨k0, fun _ => ⟨kk1, by omega⟩, fun y => ⟨fun y0 => absurd y0 (by omega), fun _ => ?_⟩, fun y => ⟨⟨by omega, by omega⟩, fun M92 e92 => ?_⟩⟩
    · have n42 : mI M (r + 1) k ≠ 42 := by
        rcases y with u | u
        · exact absurd u (by omega)
        · exact u
      rw [show ((k + 1 : Nat) : Int) - 1 = (k : Int) by omega]
      by_cases ya : a < n
      · refine (s_RR_closeInner io g h ya ?_).mono (fun x M' q => ?_)
        · have op := en.1
          clear ht en y e0
          unfold opn at op
          unfold lvl at l0
          rcases op with u | u | u | u | u | u | u | u
          · omega
          · omega
          · exfalso
            by_cases v1 : 19 ≤ mI M (r + 1) k ∧ mI M (r + 1) k ≤ 24
            · rw [if_pos v1] at l0; omega
            · rw [if_neg v1] at l0
              by_cases v2 : mI M (r + 1) k = 25 ∨ mI M (r + 1) k = 26
              · rw [if_pos v2] at l0; omega
              · rw [if_neg v2] at l0
                by_cases v3 : 27 ≤ mI M (r + 1) k ∧ mI M (r + 1) k ≤ 29
                · rw [if_pos v3] at l0; omega
                · rw [if_neg v3] at l0
                  by_cases v4 : mI M (r + 1) k = 30
                  · rw [if_pos v4] at l0; omega
                  · rw [if_neg v4, if_pos (by omega)] at l0; omega
          · omega
          · omega
          · omega
          · omega
          · omega
        · obtain ⟨q1, q2, q3, q4, q5, q6, q7, q8'⟩ := q
          refine ⟨?_, q1.1, q1, f.trans ⟨q2, q3, q4, q5, q6, q7⟩, ?_⟩
          · rcases q8' with ⟨e, -⟩ | ⟨e, -⟩ <;> rw [e] <;> exact i32s (by omega) (by omega)
          · rcases q8' with ⟨e, e2⟩ | ⟨e, H', L', k', wt', g', -⟩
            · rw [e2]; exact ⟨Or.inr (Or.inr e), H, L, k + 1, 0, a, g, by omega, fun u => absurd u (by omega)⟩
            · exact ⟨Or.inl e, H', L', k', wt', a + 1, g', by omega, fun u => absurd u (by omega)⟩
      · have eo := e0 (by have := g.2.2.1.1; omega)
        rw [eo]
        refine (s_RR_closeInner0 g h).mono (fun x M' q => ?_)
        obtain ⟨e, e2⟩ := q
        rw [e, e2]
        exact ⟨i32s (by omega) (by omega), h.1, h, f, Or.inr (Or.inr rfl), H, L, k + 1, 0, a, g, by omega, fun u => absurd u (by omega)⟩
    · have y42 : mI M (r + 1) k = 42 := Classical.byContradiction (fun u => y (Or.inr u))
      refine (s_RR_group g h (by rw [y42]; exact Or.inr (Or.inr (Or.inr rfl))) e92).mono (fun M94 q => ?_)
      have fq := f.trans (g_rrF q)
      obtain ⟨q1, -, -, -, -, -, -, q8', H', L', g', -⟩ := q
      refine ⟨q1.1, s_to112 io e0 k M94 H' L' q1 fq g' (fun hk => ?_)⟩
      rw [q8' (k - 1) (by omega)]
      exact en.2.2.2.2.2.2 (Or.inr y42) (k - 1) (by omega)
end RRK
