/-! The class's reader of rules: takeOperand. -/
section RRN
variable {G : mG} {d z r w T A B D N C n p O P K k a a' s L L1 V F d0 c : Nat} {M0 M M' M1 M2 : mM} {H H1 : Nat → Nat} {ns : Nat → Int} {wt : Int}
theorem s_RR_takeOperand (h : RB M z r w T A B D N C n p O P K) (g : RG M r p O P n s V F ns d0 H L k a 1) (nk : NK M r A n V F ns c) : Ci G y_RR_takeOperand (d + 3) [vr r] M (rtQ M z r w T A B D N C n p O P K s V F ns d0 a) := by
  have g1 := g.1.1
  have gn := g.2.2.1.1
  have rm := g.room
  obtain ⟨-, ⟨k0, ⟨-, -, -, -, -, q15, q16, q17, q18⟩, ⟨-, -, -, -, -, kk6, kk7, kk8, kk9⟩, ⟨-, -, -, -, -, nn6, nn7, nn8, nn9⟩⟩, ⟨r0, -⟩, hW, -⟩ := id h
  obtain ⟨⟨w1, ⟨p0, p3, p4, p5⟩, -, ⟨k3, k4, k5⟩, ⟨c3, c4, c5⟩, w6, w7, w8, -⟩, e2, hnN, hw, hA, hB⟩ := id hW
  have nend : ∀ {x : Int}, mI M A a = x → x ≠ 0 → a < n := fun {x} e e0 => by
    have : a ≠ n := fun u => by rw [u, hA] at e; omega
    omega
  refine k_RR_takeOperand h.1 ?_
  rw [r0, p3, g1, c3, Int.toNat_natCast]
  refine ⟨k0, w1, k3, by omega, (s_RR_here h g1 gn).mono (fun x6 M5 q => ?_)⟩
  obtain ⟨e5, -, x0, x1⟩ := q
  subst e5
  rw [r0, p5, g1, c5, Int.toNat_natCast]
  have i6 : i32 x6 := i32s (by omega) (by omega)
  refine ⟨i6, h.1, fun y2 => ⟨k0, ?_⟩, fun y2 => ⟨fun y3 => ⟨k0, w1, k5, by omega, ?_⟩, fun y3 => ⟨fun y13 v57 e57 => ⟨k0, ?_⟩, fun y13 => ⟨fun y15 => ⟨k0, ⟨by omega, by omega⟩, fun M70 e70 => ?_⟩, fun y15 => ⟨fun y26 => ⟨k0, ?_⟩, fun y26 => ⟨fun y32 => ⟨k0, ?_⟩, fun y32 => ⟨fun y37 => ⟨k0, ?_⟩, fun y37 => ?_⟩⟩⟩⟩⟩⟩⟩
  · have han := nend y2 (by omega)
    refine (s_RR_find h nk han y2).mono (fun x11 M10 q => ?_)
    obtain ⟨e10, hx⟩ := q
    subst e10
    rw [q16, q17, q18, nn7, nn8, nn9]
    have bx : i32 x11 ∧ (x11 ≠ -1 → ∃ i : Nat, x11 = i ∧ i < c) := by
      have hc := nk.2.1
      rcases hx with u | ⟨i, u, hi⟩
      · exact ⟨by rw [u]; exact i32s (by omega) (by omega), fun v => absurd u v⟩
      · exact ⟨by rw [u]; exact i32s (by omega) (by omega), fun _ => ⟨i, u, hi⟩⟩
    have hc := nk.2.1
    refine ⟨bx.1, h.1, fun y => ⟨k0, fun _ => ⟨kk7, ?_⟩⟩, fun y => ⟨k0, (s_RR_note (i32s (by omega) (by omega)) i6 h).mono (fun M22 q => ?_)⟩, fun y => ?_⟩
    · obtain ⟨i, ei, hi⟩ := bx.2 y
      omega
    · obtain ⟨h22, f22, r22, t22, t22'⟩ := q
      have n22 : ∀ b, b ≠ r → mI M22 b = mI M10 b := fun b hb => f22.2.2.2.2.2.2 b hb
      obtain ⟨oO, oP, op, -⟩ := h.off
      have F22 : FI (rdS r p O P) M10 M22 := f22.mono (fun b q => Or.inl (by have q' : b = r := q; omega))
      have g22 := g.cg (M' := M22) (a' := a) (by rw [r22 2 (by decide) (by decide)]; exact g1) (Nat.le_refl _) gn (r22 12 (by decide) (by decide)) (r22 7 (by decide) (by decide)) (r22 14 (by decide) (by decide)) (r22 5 (by decide) (by decide)) (fun i i1 i5 => n22 (r + i) (by omega)) (by rw [n22 p (by omega)]) (n22 O (by omega)) (n22 P (by omega))
      have rf : rrF M10 r p O P s M22 := ⟨F22, fun i _ i3 i4 _ _ _ _ => r22 i i3 i4, t22', fun i i6 i9 => n22 (r + i) (by omega), fun i _ => by rw [n22 p (by omega)], fun i _ => ⟨by rw [n22 O (by omega)], by rw [n22 P (by omega)]⟩⟩
      refine ⟨h22.1, h22.2.1.1, (s_RR_takeValue (i32s (by omega) (by omega)) (i32s (by omega) (by omega)) (Or.inl rfl) h22 g22 han (fun H' e => Or.inl ⟨rfl, by omega, by omega, e⟩) (by unfold jm; omega)).mono (fun x M' q => v_rt g22 rf q)⟩
    · have nx : x11 ≠ -1 := fun u => y (Or.inl u)
      obtain ⟨i, ei, hi⟩ := bx.2 nx
      obtain ⟨-, ni, nt⟩ := nk.2.2 i hi
      rw [ei, Int.toNat_natCast] at y
      have y6 : mI M10 r 6 = 0 ∨ mI M10 (r + 7) i = 4 := by
        by_cases u6 : mI M10 r 6 = 0
        · exact Or.inl u6
        · by_cases u4 : mI M10 (r + 7) i = 4
          · exact Or.inr u4
          · exact absurd (Or.inr ⟨u6, u4⟩) y
      rw [ei, Int.toNat_natCast]
      refine ⟨k0, kk7, by omega, kk8, by omega, kk9, by omega, (s_RR_takeValue (h.1 _ _).1 (h.1 _ _).1 nt h g han (fun H' e => ?_) ?_).mono (fun x M' q => v_rt g rrF.refl q)⟩
      · rcases ni with ⟨u1, u2, u3⟩ | ⟨u1, u2, u3, u4⟩ | ⟨u1, u2, u3⟩
        · exact Or.inr (Or.inr (Or.inl ⟨u1, u2, u3 (y6.resolve_right (by omega)), e⟩))
        · exact Or.inr (Or.inl ⟨Or.inl u1, u2, u3, by rw [u4, u1], e⟩)
        · have u6 := u3 (y6.resolve_right (by omega))
          exact Or.inr (Or.inl ⟨Or.inr u1, u2, u6.1, by rw [u6.2, u1], e⟩)
      · unfold jm
        clear nk bx hx y y6
        rcases ni with ⟨u1, -⟩ | ⟨u1, -⟩ | ⟨u1, -⟩ <;> omega
  · have han := nend y3 (by omega)
    have am := (hw a han).2.2.2 y3
    exact (s_RR_takeValue (i32s (by omega) (by omega)) (h.1 _ _).1 (Or.inl rfl) h g han (fun H' e => Or.inl ⟨rfl, by omega, by omega, e⟩) (by unfold jm; omega)).mono (fun x M' q => v_rt g rrF.refl q)
  · have han : a < n := by
      rcases y13 with u | u
      · exact nend u (by omega)
      · exact nend u (by omega)
    have b57 : v57 = 0 ∨ v57 = 1 := by rw [e57]; split <;> omega
    exact (s_RR_takeValue (i32s (by omega) (by omega)) (i32s (by omega) (by omega)) (Or.inr rfl) h g han (fun H' e => Or.inl ⟨rfl, by omega, by omega, e⟩) (by unfold jm; omega)).mono (fun x M' q => v_rt g rrF.refl q)
  · have han : a < n := by
      rcases y15 with u | u
      · exact nend u (by omega)
      · exact nend u (by omega)
    obtain ⟨h70, f70, r70, n70⟩ := rb_fld h ⟨by omega, by omega⟩ e70
    obtain ⟨oO, oP, op, -⟩ := h.off
    have a70 : mI M70 r 2 = ((a + 1 : Nat) : Int) := by rw [r70, if_pos rfl]; omega
    have A70 := (h.word f70).1
    have g70 := g.cg (M' := M70) (a' := a + 1) a70 (by omega) (by omega) (by rw [r70, if_neg (by decide)]) (by rw [r70, if_neg (by decide)]) (by rw [r70, if_neg (by decide)]) (by rw [r70, if_neg (by decide)]) (fun i i1 i5 => n70 (r + i) (by omega)) (by rw [n70 p (by omega)]) (n70 O (by omega)) (n70 P (by omega))
    have rf : rrF M5 r p O P s M70 := ⟨f70, fun i i2 _ _ _ _ _ _ => by rw [r70, if_neg i2], fun _ => by rw [r70, if_neg (by decide)], fun i i6 i9 => n70 (r + i) (by omega), fun i _ => by rw [n70 p (by omega)], fun i _ => ⟨by rw [n70 O (by omega)], by rw [n70 P (by omega)]⟩⟩
    obtain ⟨-, -, ⟨r0', -⟩, hW', -⟩ := id h70
    obtain ⟨⟨w1', ⟨p0', p3', p4', p5'⟩, -, ⟨k3', k4', k5'⟩, ⟨c3', c4', c5'⟩, -⟩, -⟩ := id hW'
    rw [r0', p3', c3', a70, Int.toNat_natCast]
    refine ⟨w1', k3', by omega, fun y => ?_, fun y => ?_⟩
    · have han1 : a + 1 < n := by
        have : a + 1 ≠ n := fun u => by rw [A70, u, hA] at y; omega
        omega
      refine (s_RR_takeLevel h70 g70 (by omega) ⟨x0, x1⟩ han1).mono (fun x M' q => ?_)
      obtain ⟨q1, q2, q3⟩ := l_rt (a := a) (by omega) g70 rf q
      exact ⟨q1, q2, k_RR_takeOperand_277 q2 q1 q3⟩
    · exact k_RR_takeOperand_277 h70.1 (i32s (by omega) (by omega)) ⟨h70, rf, Or.inr (Or.inr rfl), H, L, k, 1, a + 1, g70, by omega, fun u => absurd u (by omega)⟩
  · exact (s_RR_takeLevel h g (by omega) ⟨x0, x1⟩ (nend y26 (by omega))).mono (fun x M' q => l_rt (Nat.le_refl _) g rrF.refl q)
  · have han := nend y32 (by omega)
    refine (s_RR_mayDeny h g.1.2.1 (by omega)).mono (fun x88 M87 q => ?_)
    obtain ⟨e87, hx⟩ := q
    subst e87
    refine ⟨i32s (by omega) (by omega), h.1, fun _ => k_RR_takeOperand_239 h.1 (i32s (by omega) (by omega)) ⟨h, rrF.refl, Or.inr (Or.inr rfl), H, L, k, 1, a, g, by omega, fun u => absurd u (by omega)⟩, fun _ => ⟨k0, (s_RR_takeLevel h g (by omega) ⟨x0, x1⟩ han).mono (fun x M' q => ?_)⟩⟩
    obtain ⟨q1, q2, q3⟩ := l_rt (a := a) (Nat.le_refl _) g rrF.refl q
    exact ⟨q1, q2, k_RR_takeOperand_239 q2 q1 q3⟩
  · exact (s_RR_takeLevel h g (by omega) ⟨x0, x1⟩ (nend y37 (by omega))).mono (fun x M' q => l_rt (Nat.le_refl _) g rrF.refl q)
  · exact ⟨h, rrF.refl, Or.inr (Or.inr rfl), H, L, k, 1, a, g, by omega, fun u => absurd u (by omega)⟩
end RRN
