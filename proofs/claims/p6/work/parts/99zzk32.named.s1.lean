section
/-! The class's reader of texts: var, the whole. -/
section TRF
variable {G : mG} {d z q w T A B D N C n p O P K Ab Be Cm V F c s s' L L' cnt Bn a d0 V1 F1 nw k : Nat} {M0 M M' M1 M2 : mM} {ns ns' ns1 : Nat → Int} {sf ef sf' ef' : Nat → Nat} {H : Nat → Nat} {S R : Nat → Prop}
theorem s_TR_readVar (h : TX M z q w T A B D N C n p O P K Ab Be Cm V F ns sf ef c cnt L) (ha : mI M (q + 1) 2 = a) (han : a < n) (hs : mI M p 2 = L) (hsa : L ≤ a) (hd : mI M (q + 1) 5 = 0) : Ci G y_TR_readVar (d + 6) [vr q] M (vaQ M z q w T A B D N C n p O P K Ab Be Cm V F ns sf ef c cnt L) := by
  have ap := h.1.apart
  have qp := h.1.2.2.2.2.2.1.2.1
  have ok := h.1.1.1
  have hN : n ≤ 16384 := by have := h.1.1.2.2.2.1.2.2.1; have := h.1.1.2.2.2.1.1.2.2.2.2.2.2.1; omega
  obtain ⟨⟨np0, np1, -, -⟩, ⟨nO0, nO1, -, -, -⟩, nP0, nP1, -, -, -⟩ := h.1.ne
  obtain ⟨q01, q10, q210, q211, -⟩ := q_ne q
  obtain ⟨t0, t1, t2, t3, t4, t5⟩ := h.1.2.1
  refine k_TR_readVar ok ?_
  rw [t1]
  refine ⟨t0, h.1.1.2.1.1, fun M3 e3 => ?_⟩
  obtain ⟨h3, x3, g3⟩ := tx_ui h (i32s (by omega) (by omega)) e3 (Or.inr (Or.inr (Or.inr (Or.inl ⟨rfl, Or.inr (Or.inr rfl)⟩))))
  have p3 : mI M3 p 2 = L := by rw [g3, if_neg (by omega)]; exact hs
  rw [h3.1.2.1.2.2.2.1, p3]
  refine ⟨h3.1.1.2.2.2.2.1.1, fun M6 e6 => ?_⟩
  obtain ⟨h6, x6, g6⟩ := tx_ui h3 ⟨by omega, by omega⟩ e6 (Or.inl rfl)
  rw [h6.1.2.1.2.2.2.1]
  refine ⟨h6.1.1.2.2.2.2.1.1, fun v10 e10 => ?_⟩
  have b10 : v10 = 0 ∨ v10 = 1 := by rw [e10]; split <;> omega
  have f6 := h6.2.1.1.1
  refine (s_TR_readName (a := a) (i32s (by omega) (by omega)) h6 (by rw [g6, if_neg (by omega), g3, if_neg (by omega)]; exact ha) han).mono (fun x16 M15 k => ?_)
  obtain ⟨h15, x15, n15, y15, k15⟩ := k
  have i16 : i32 x16 := by rcases k15 with u | u <;> rw [u.1] <;> exact i32s (by omega) (by omega)
  refine ⟨i16, h15.1.1.1, fun y => ?_, fun y => ?_⟩
  · obtain ⟨-, u⟩ := k15.resolve_right (fun u => by have := u.1; omega)
    exact ⟨(x3.1.trans x6.1).trans x15.1, Or.inl ⟨rfl, h15, u⟩⟩
  obtain ⟨-, a15, a2n, q15, A15⟩ := k15.resolve_left (fun u => y u.1)
  clear k15
  rw [h15.1.2.1.2.1]
  refine ⟨h15.1.2.1.1, h15.1.1.2.1.1, (s_tx_accept (i32s (by omega) (by omega)) (by omega) h15 a15 a2n).mono (fun x23 M22 k => ?_)⟩
  obtain ⟨i23, o22, -, h22, x22, k22, r22, b22⟩ := k
  refine ⟨i23, o22, fun y => ?_, fun y => ?_⟩
  · have e := (k22.resolve_left (fun u => by have := u.1; omega)).2
    rw [e]
    exact ⟨(x3.1.trans x6.1).trans x15.1, Or.inl ⟨rfl, h15, _, a15, a2n⟩⟩
  obtain ⟨-, -, a22, a3n⟩ := k22.resolve_right (fun u => y u.1)
  clear k22
  rw [h22.1.2.1.2.1]
  refine ⟨h22.1.2.1.1, h22.1.1.2.1.1, (s_tx_accept (i32s (by omega) (by omega)) (by omega) h22 a22 (by omega)).mono (fun x30 M29 k => ?_)⟩
  obtain ⟨i30, o29, hx30, h29, x29, k29, r29, b29⟩ := k
  refine ⟨i30, o29, h29.1.2.1.1, hx30, fun M34 e34 => ?_⟩
  obtain ⟨h34, x34, g34⟩ := tx_ui h29 i30 e34 (Or.inl rfl)
  have gg : ∀ b, b ≠ q → mI M34 b = mI M29 b := fun b hb => by
    funext i
    rw [g34, if_neg (by omega)]
  have q34 : ∀ i, i ≠ 8 → mI M34 q i = mI M15 q i := fun i hi => by rw [g34, if_neg (fun u => hi u.2), b29 q (by omega), b22 q (by omega)]
  have r34 : ∀ i, i ≠ 2 → mI M34 (q + 1) i = mI M15 (q + 1) i := fun i hi => by rw [gg _ (by omega), r29 i hi, r22 i hi]
  have c34 : mI M34 (q + 1) 6 ≠ 0 := by rw [r34 6 (by decide), n15.1 6 (by decide) (by decide) (by decide), g6, if_neg (by omega), g3, if_pos ⟨rfl, rfl⟩]; omega
  have d34 : mI M34 (q + 1) 5 = 0 := by rw [r34 5 (by decide), n15.1 5 (by decide) (by decide) (by decide), g6, if_neg (by omega), g3, if_neg (by omega)]; exact hd
  have p34 : mI M34 p 2 = ((L : Nat) : Int) := by rw [gg p (by omega), b29 p (by omega), b22 p (by omega), n15.2.2 p (by omega) (by omega), g6, if_neg (by omega)]; exact p3
  have hn : mI M34 q 3 = ((a + 1 : Nat) : Int) ∧ a + 1 < n ∧ mI M34 A (a + 1) = 2 ∧ mI M34 q 4 = ((L : Nat) : Int) ∧ (mI M34 q 8 = 0 ∨ mI M34 q 8 = 1) ∧ (12 ≤ V → mI M34 (q + 1) 3 ≠ 0) := by
    refine ⟨by rw [q34 3 (by decide)]; exact q15, by omega, ?_, by rw [q34 4 (by decide), n15.2.1 4 (by decide), g6, if_pos ⟨rfl, rfl⟩], by rw [g34, if_pos ⟨rfl, rfl⟩]; exact hx30, fun y => ?_⟩
    · rw [(h29.1.words x34.1).1, (h22.1.words x29.1).1, (h15.1.words x22.1).1]
      exact A15
    · rw [r34 3 (by decide)]
      exact y15 (by rw [e10, if_neg (by omega)]; omega)
  have f34 : FI (txS q p O P) M M34 := ((((x3.1.trans x6.1).trans x15.1).trans x22.1).trans x29.1).trans x34.1
  refine ⟨fun y8 => ?_, fun y8 => ?_⟩
  · -- numbers
    have e0 : x30 = 0 := by rw [g34, if_pos ⟨rfl, rfl⟩] at y8; exact y8
    have e29 := (k29.resolve_left (fun u => by have := u.1; omega)).2
    have a34 : mI M34 (q + 1) 2 = ((a + 2 + 1 : Nat) : Int) := by rw [gg _ (by omega), e29]; exact a22
    refine (s_TR_readItemRule (k := 0) (d0 := 0) (by omega) (i32s (by omega) (by omega)) h34 a34 (by omega) p34 (Nat.le_refl _) (by omega) d34 (by omega) (h34.2.1.2.2.1.nkc c34)).mono (fun x39 M38 k => ?_)
    obtain ⟨h38, x38, ⟨c38, q38, t38⟩, k38⟩ := k
    have i39 : i32 x39 := by rcases k38 with u | u <;> rw [u.1] <;> exact i32s (by omega) (by omega)
    refine ⟨i39, h38.1.1.1, fun y => ?_, fun y => ?_⟩
    · obtain ⟨-, u⟩ := k38.resolve_right (fun u => by have := u.1; omega)
      exact ⟨f34.trans x38.1, Or.inl ⟨rfl, h38, u⟩⟩
    obtain ⟨-, eA, HA, aA, cdA, p38, a38, aa38, an38, ea38, d38⟩ := k38.resolve_left (fun u => y u.1)
    clear k38
    have seA : L ≤ eA := cdA.2.2.2.2.2
    rw [h38.1.2.1.2.1]
    refine ⟨h38.1.2.1.1, h38.1.1.2.1.1, (s_tx_accept (i32s (by omega) (by omega)) (by omega) h38 a38 an38).mono (fun x46 M45 k => ?_)⟩
    obtain ⟨i46, o45, -, h45, x45, k45, r45, b45⟩ := k
    refine ⟨i46, o45, fun y => ?_, fun y => ?_⟩
    · have e := (k45.resolve_left (fun u => by have := u.1; omega)).2
      rw [e]
      exact ⟨f34.trans x38.1, Or.inl ⟨rfl, h38, _, a38, an38⟩⟩
    obtain ⟨-, -, a45, an45⟩ := k45.resolve_right (fun u => y u.1)
    clear k45
    have c45 : mI M45 (q + 1) 6 ≠ 0 := by rw [r45 6 (by decide), c38]; exact c34
    have d45 : mI M45 (q + 1) 5 = 0 := by rw [r45 5 (by decide), d38]; exact d34
    have p45 : mI M45 p 2 = ((eA + 1 : Nat) : Int) := by rw [b45 p np1]; exact p38
    refine ⟨h45.1.2.1.1, (s_TR_readItemRule (k := 1) (d0 := 0) (by omega) (i32s (by omega) (by omega)) h45 a45 (by omega) p45 (by omega) (by omega) d45 (by omega) (h45.2.1.2.2.1.nkc c45)).mono (fun x52 M51 k => ?_)⟩
    obtain ⟨h51, x51, ⟨c51, q51, t51⟩, k51⟩ := k
    have i52 : i32 x52 := by rcases k51 with u | u <;> rw [u.1] <;> exact i32s (by omega) (by omega)
    refine ⟨i52, h51.1.1.1, fun y => ?_, fun y => ?_⟩
    · obtain ⟨-, u⟩ := k51.resolve_right (fun u => by have := u.1; omega)
      exact ⟨((f34.trans x38.1).trans x45.1).trans x51.1, Or.inl ⟨rfl, h51, u⟩⟩
    obtain ⟨-, eB, HB, aB, cdB, p51, a51, aa51, an51, ea51, d51⟩ := k51.resolve_left (fun u => y u.1)
    clear k51
    have seB : eA + 1 ≤ eB := cdB.2.2.2.2.2
    have q51' : mI M51 q = mI M34 q := by rw [q51, b45 q q01, q38]
    rw [h51.1.2.1.2.1]
    refine ⟨h51.1.2.1.1, h51.1.1.2.1.1, s_rv10 (s := eB + 1) (((f34.trans x38.1).trans x45.1).trans x51.1) h51 p51 (by omega) (by omega) a51 an51 (by rw [d51]; exact d45) (by rw [c51]; exact c45) ⟨by rw [q51']; exact hn.1, hn.2.1, ?_, by rw [q51']; exact hn.2.2.2.1, by rw [q51']; exact hn.2.2.2.2.1, fun u => x51.2.2.1 (x45.2.2.1 (x38.2.2.1 (hn.2.2.2.2.2 u)))⟩ (fun _ => ⟨⟨L, eA, HA, ?_, ?_, Nat.le_refl _, by omega⟩, ⟨eA + 1, eB, HB, by rw [t51, if_pos rfl], cdB, by omega, by omega⟩⟩)⟩
    · rw [(h45.1.words x51.1).1, (h38.1.words x45.1).1, (h34.1.words x38.1).1]
      exact hn.2.2.1
    · rw [t51, if_neg (by decide), b45 _ q211, t38, if_pos rfl]
    · exact cdA.cg (fun i hi => by rw [(x51.2.2.2.2.2.2 i (by omega)).1, b45 O nO1]) (fun i hi => by rw [(x51.2.2.2.2.2.2 i (by omega)).2, b45 P nP1])
  · have e0 : x30 ≠ 0 := fun u => y8 (by rw [g34, if_pos ⟨rfl, rfl⟩]; exact u)
    obtain ⟨-, -, a29, an29⟩ := k29.resolve_right (fun u => e0 u.1)
    have a34 : mI M34 (q + 1) 2 = ((a + 2 + 1 + 1 : Nat) : Int) := by rw [gg _ (by omega)]; exact a29
    rw [h34.1.2.1.2.1]
    exact ⟨h34.1.1.2.1.1, s_rv10 (s := L) f34 h34 p34 (Nat.le_refl _) (by omega) a34 (by omega) d34 c34 hn (fun u => absurd u y8)⟩
end TRF
end
section
/-! The class's reader of texts: worksOut. -/
section TRG
variable {G : mG} {d z q w T A B D N C n p O P K Ab Be Cm V F c s s' L L' cnt Bn a d0 V1 F1 nw k e s9 : Nat} {M0 M M' M1 M2 : mM} {ns ns' ns1 : Nat → Int} {sf ef sf' ef' : Nat → Nat} {H : Nat → Nat} {S R : Nat → Prop}
/-- a run of the machine: what stays -/
def maF (M : mM) (q Ab Be Cm : Nat) (M' : mM) (Ab' Be' Cm' : Nat) : Prop := FA (mcS (q + 11) Ab Be) (fun x => x = q + 11) M M' ∧ ((Ab' = Ab ∨ mZ M ≤ Ab') ∧ (Be' = Be ∨ mZ M ≤ Be')) ∧ (mS M' + 4 * Cm = mS M + 4 * Cm' ∧ 32 * mZ M' + Cm ≤ 32 * mZ M + Cm')
def sm4 (M M' : mM) (x : Nat) : Prop := mK M' x = mK M x ∧ mN M' x = mN M x ∧ mR M' x = mR M x ∧ mI M' x = mI M x
theorem RK.eq {r : Nat} (h : RK M r) (v : ∀ i, i ≤ 9 → sm4 M M' (r + i)) : RK M' r := by
  unfold RK at h ⊢
  have v0 := v 0 (by omega)
  rw [Nat.add_zero] at v0
  rw [v0.1, v0.2.2.1, (v 1 (by omega)).1, (v 2 (by omega)).1, (v 3 (by omega)).1, (v 4 (by omega)).1, (v 5 (by omega)).1, (v 6 (by omega)).1, (v 7 (by omega)).1, (v 8 (by omega)).1, (v 9 (by omega)).1, (v 1 (by omega)).2.1, (v 2 (by omega)).2.1, (v 3 (by omega)).2.1, (v 4 (by omega)).2.1, (v 5 (by omega)).2.1, (v 6 (by omega)).2.1, (v 7 (by omega)).2.1, (v 8 (by omega)).2.1, (v 9 (by omega)).2.1]
  exact h
theorem Wf.eq (h : Wf M w T A B D N C n) (sw : ∀ x, (x = w ∨ x = T ∨ x = A ∨ x = B ∨ x = D) → sm4 M M' x) : Wf M' w T A B D N C n := by
  unfold Wf WA at h ⊢
  obtain ⟨w1, w2, w3, w4⟩ := sw w (Or.inl rfl)
  obtain ⟨x1, x2, x3, x4⟩ := sw T (Or.inr (Or.inl rfl))
  obtain ⟨y1, y2, y3, y4⟩ := sw A (Or.inr (Or.inr (Or.inl rfl)))
  obtain ⟨z1, z2, z3, z4⟩ := sw B (Or.inr (Or.inr (Or.inr (Or.inl rfl))))
  obtain ⟨v1, v2, v3, v4⟩ := sw D (Or.inr (Or.inr (Or.inr (Or.inr rfl))))
  rw [w1, w3, w4, x1, x2, y1, y2, y4, z1, z2, z4, v1, v2, v4]
  exact h
theorem TP.st (h : TP M z q w T A B D N C n p O P K Ab Be Cm) (hf : FA (mcS (q + 11) Ab Be) (fun x => x = q + 11) M M') : ∀ x, x < mZ M → ¬ (q + 11 ≤ x ∧ x ≤ q + 20) → x ≠ Ab → x ≠ Be → sm4 M M' x := fun x hx h1 h2 h3 => by
  obtain ⟨u1, u2, u3, u4, u5⟩ := hf.2 x hx
  refine ⟨u1, u2, u4 (show ¬ x = q + 11 by omega), u5 (fun y => ?_)⟩
  have y' : x = q + 11 ∨ x = q + 11 + 2 ∨ (q + 11 + 5 ≤ x ∧ x ≤ q + 11 + 9) ∨ x = Ab ∨ x = Be := y
  omega
theorem TP.mst (h : TP M z q w T A B D N C n p O P K Ab Be Cm) (hf : FA (mcS (q + 11) Ab Be) (fun x => x = q + 11) M M') : (∀ i, i ≤ 10 → sm4 M M' (q + i)) ∧ sm4 M M' (q + 21) ∧ sm4 M M' (q + 22) ∧ (∀ i, i ≤ 15 → sm4 M M' (p + i)) ∧ sm4 M M' O ∧ sm4 M M' P ∧ (∀ x, (x = w ∨ x = T ∨ x = A ∨ x = B ∨ x = D) → sm4 M M' x) := by
  have st := h.st hf
  obtain ⟨⟨aA1, aA2, aA3, aA4, aA5, aA6⟩, aO, aP, aO2, aP2, aOP⟩ := h.apart
  have zz : z ≤ mZ M := h.2.2.2.1.2.2.2.2.2.2.1.1
  obtain ⟨pz0, pz1, pz2⟩ := h.1.2.2.2.2.1.2.2.2.2.1
  obtain ⟨s1, s2, s3⟩ := h.2.2.2.2.2.1
  clear h hf
  refine ⟨fun i hi => st _ (by omega) (by omega) (by omega) (by omega), st _ (by omega) (by omega) (by omega) (by omega), st _ (by omega) (by omega) (by omega) (by omega), fun i hi => st _ (by omega) (by omega) (by omega) (by omega), st O pz1 (by omega) (by omega) (by omega), st P pz2 (by omega) (by omega) (by omega), fun x hx => ?_⟩
  obtain ⟨u1, u2, u3, u4⟩ := s3 x hx
  exact st x u4 (by omega) u2 u3
theorem TP.ma {Ab' Be' Cm' : Nat} (h : TP M z q w T A B D N C n p O P K Ab Be Cm) (ok : mOk M') (hk : MK M' z (q + 11) (q + 12) Ab' Be' Cm') (hf : FA (mcS (q + 11) Ab Be) (fun x => x = q + 11) M M') (hab : (Ab' = Ab ∨ mZ M ≤ Ab') ∧ (Be' = Be ∨ mZ M ≤ Be')) (h0 : mR M' (q + 11) 0 = mR M (q + 11) 0) : TP M' z q w T A B D N C n p O P K Ab' Be' Cm' := by
  obtain ⟨m1, m2, m3, m4, m5, m6, m7⟩ := h.mst hf
  have np : ¬ p = q + 11 := by have := h.apart.1.1; omega
  obtain ⟨⟨b1, b2, b3, b4, b5, b6, b7⟩, t1, t2, t3, t4, ⟨s1, s2, s3⟩, s4⟩ := h
  obtain ⟨pz0, pz1, pz2⟩ := b5.2.2.2.2.1
  have s0 := m1 0 (by omega)
  have r0 := m1 1 (by omega)
  rw [Nat.add_zero] at s0
  have zz := hf.1.1
  refine ⟨⟨ok, b2.eq (fun i hi => by rw [show q + 1 + i = q + (1 + i) by omega]; exact m1 _ (by omega)), by rw [r0.2.2.1]; exact b3, b4.eq m7, b5.fa hf np, b6, b7⟩, by rw [s0.1, s0.2.2.1]; exact t1, by rw [m2.1, m3.1, m2.2.1, m3.2.1]; exact t2, hk, by rw [h0]; exact t4, ⟨s1, s2, fun x hx => ?_⟩, ?_⟩
  · obtain ⟨u1, u2, u3, u4⟩ := s3 x hx
    clear b1 b2 b3 b4 b5 b6 t1 t2 t3 t4 hk
    exact ⟨u1, by omega, by omega, by omega⟩
  · clear b1 b2 b3 b4 b5 b6 t1 t2 t3 t4 hk
    omega
theorem TX.ma {t cc : Nat} (h : TX M z q w T A B D N C n p O P K Ab Be Cm V F ns sf ef c cnt L) (hM : MS M z (q + 11) (q + 12) Ab Be Cm M' t cc) : ∃ Ab' Be' Cm', TX M' z q w T A B D N C n p O P K Ab' Be' Cm' V F ns sf ef c cnt L ∧ maF M q Ab Be Cm M' Ab' Be' Cm' ∧ (∀ j, j < t → 1 ≤ mI M' Be' j ∧ mI M' Be' j < 1000000000) ∧ (mI M' q = mI M q ∧ mI M' (q + 1) = mI M (q + 1) ∧ mI M' (q + 21) = mI M (q + 21) ∧ mI M' (q + 22) = mI M (q + 22) ∧ mI M' p = mI M p ∧ mI M' O = mI M O ∧ mI M' P = mI M P ∧ mI M' A = mI M A) := by
  obtain ⟨Ab', Be', Cm', ok, hk, hf, hab, hr, ⟨h8, htC, hb⟩, h15, hm⟩ := hM
  obtain ⟨hP, hC, hX⟩ := h
  obtain ⟨m1, m2, m3, m4, m5, m6, m7⟩ := hP.mst hf
  have s0 := m1 0 (by omega)
  have r0 := m1 1 (by omega)
  rw [Nat.add_zero] at s0
  have p0 := m4 0 (by omega)
  rw [Nat.add_zero] at p0
  have eE : txE M q p O P L M' := ⟨fun i _ _ _ _ _ _ _ _ => by rw [r0.2.2.2], fun y => by rw [r0.2.2.2]; exact y, fun i i6 i9 => by rw [show q + 1 + i = q + (1 + i) by omega]; exact (m1 (1 + i) (by omega)).2.2.2, fun i _ => by rw [p0.2.2.2], fun i _ i15 => (m4 i i15).2.2.2, fun i _ => ⟨by rw [m5.2.2.2], by rw [m6.2.2.2]⟩⟩
  have mA := (m7 A (Or.inr (Or.inr (Or.inl rfl)))).2.2.2
  exact ⟨Ab', Be', Cm', ⟨hP.ma ok hk hf hab hm.2.2, hC.tx mA eE (fun j => by rw [(m1 6 (by omega)).2.2.2]; exact hC.2.2.2 j), hX.tx eE⟩, ⟨hf, hab, hr⟩, hb, s0.2.2.2, r0.2.2.2, m2.2.2.2, m3.2.2.2, p0.2.2.2, m5.2.2.2, m6.2.2.2, mA⟩
/-- what working out a rule comes to -/
def wuQ (M : mM) (z q w T A B D N C n p O P K Ab Be Cm V F : Nat) (ns : Nat → Int) (sf ef : Nat → Nat) (c cnt L : Nat) (x : Int) (M' : mM) : Prop := ∃ Ab' Be' Cm', TX M' z q w T A B D N C n p O P K Ab' Be' Cm' V F ns sf ef c cnt L ∧ FA (fun x => x = q + 1 ∨ mcS (q + 11) Ab Be x) (fun x => x = q + 11) M M' ∧ ((Ab' = Ab ∨ mZ M ≤ Ab') ∧ (Be' = Be ∨ mZ M ≤ Be')) ∧ (mS M' + 4 * Cm = mS M + 4 * Cm' ∧ 32 * mZ M' + Cm ≤ 32 * mZ M + Cm') ∧ (mI M' q = mI M q ∧ (∀ i, i ≠ 3 → i ≠ 4 → mI M' (q + 1) i = mI M (q + 1) i) ∧ mI M' (q + 21) = mI M (q + 21) ∧ mI M' p = mI M p ∧ mI M' O = mI M O ∧ mI M' P = mI M P ∧ mI M' A = mI M A) ∧ ((x = 0) ∨ (x = 1 ∧ mI M' (q + 1) 3 = 0 ∧ 1 ≤ mI M' Be' 0 ∧ mI M' Be' 0 < 1000000000))
theorem s_TR_worksOut {l2 : Int} (hF : FMs G) (hk : k < 3) (i2 : i32 l2) (h : TX M z q w T A B D N C n p O P K Ab Be Cm V F ns sf ef c cnt L) (h0 : mI M (q + 1) 3 = 0) (hr : mI M (q + 21) k = ((s : Nat) : Int)) (cd : Cod M O P V1 F ns1 s e H 1) (n7 : ∀ y, y < F → ns1 y ≠ 7) (n4 : ∀ y, y < F → ns1 y = 4 → ns y = 4) (hV1 : V1 ≤ 12) (hp2 : mI M p 2 = ((s9 : Nat) : Int)) (he9 : e < s9) (hs9 : s9 ≤ n) : Ci G y_TR_worksOut (d + 5) [vr q, vi k, vi l2] M (wuQ M z q w T A B D N C n p O P K Ab Be Cm V F ns sf ef c cnt L) := by
  have ap := h.1.apart
  have qp := h.1.2.2.2.2.2.1.2.1
  have ok := h.1.1.1
  have hK := h.1.1.2.2.2.2.2.2
  have hN : n ≤ 16384 := by have := h.1.1.2.2.2.1.2.2.1; have := h.1.1.2.2.2.1.1.2.2.2.2.2.2.1; omega
  obtain ⟨t0, t1, t2, t3, t4, t5⟩ := h.1.2.1
  obtain ⟨s1, s2, s3, s4⟩ := h.1.2.2.1
  obtain ⟨u, eu, gu⟩ := h.2.2.2 h0
  have fo : FO M p O P V1 ns1 sf ef s9 F := fun x hx => ⟨fun y => (gu.1 x hx).1 (n4 x hx y), fun y => absurd y (n7 x hx)⟩
  refine k_TR_worksOut ok (i32s (by omega) (by omega)) i2 ?_
  rw [t2, t4, s3, Int.toNat_natCast, hr]
  refine ⟨t0, s1, by omega, h.1.2.2.2.1.1, (s_Ma_run (X := fun _ => False) hF ok h.1.2.2.2.1 (fun x hx => hx.elim) h.1.1.2.2.2.2.1 h.1.2.2.2.2.1 ap.1 hp2 (by omega) (by omega) fo (fun x hx y => absurd y (n7 x hx)) h.2.1.2.1.2 hV1 cd he9 (fun y hy y7 => absurd y7 (n7 y hy))).mono (fun x6 M5 k5 => ?_)⟩
  obtain ⟨-, k5⟩ := k5
  have i6 : i32 x6 := by rcases k5 with u | u <;> rw [u.1] <;> exact i32s (by omega) (by omega)
  obtain ⟨Ab', Be', Cm', h5, ⟨m1, m2, m3⟩, hb5, q0, q1, q21, q22, qp5, qO, qP, qA⟩ : ∃ Ab' Be' Cm', TX M5 z q w T A B D N C n p O P K Ab' Be' Cm' V F ns sf ef c cnt L ∧ maF M q Ab Be Cm M5 Ab' Be' Cm' ∧ (¬ (x6 = 0) → 1 ≤ mI M5 Be' 0 ∧ mI M5 Be' 0 < 1000000000) ∧ (mI M5 q = mI M q ∧ mI M5 (q + 1) = mI M (q + 1) ∧ mI M5 (q + 21) = mI M (q + 21) ∧ mI M5 (q + 22) = mI M (q + 22) ∧ mI M5 p = mI M p ∧ mI M5 O = mI M O ∧ mI M5 P = mI M P ∧ mI M5 A = mI M A) := by
    rcases k5 with ⟨e1, -, t, cc, hM⟩ | ⟨e1, hM⟩
    · obtain ⟨Ab', Be', Cm', v1, v2, v3, v4⟩ := h.ma hM
      exact ⟨Ab', Be', Cm', v1, v2, fun y => absurd e1 y, v4⟩
    · obtain ⟨Ab', Be', Cm', v1, v2, v3, v4⟩ := h.ma hM
      exact ⟨Ab', Be', Cm', v1, v2, fun _ => v3 0 (by omega), v4⟩
  have m1' : FA (fun x => x = q + 1 ∨ mcS (q + 11) Ab Be x) (fun x => x = q + 11) M M5 := m1.mono (fun _ _ y => Or.inr y) (fun _ _ y => y)
  have nt : ∀ {y zz : Int}, i32 y → i32 zz → Cv G y_RR_note (d + 4) [vr (q + 1), vi y, vi zz] M5 (fun M19 => mOk M19 ∧ wuQ M z q w T A B D N C n p O P K Ab Be Cm V F ns sf ef c cnt L 0 M19) := fun {y zz} iy iz => (s_tx_note0 iy iz h5).mono (fun M19 kk => by
    obtain ⟨o19, h19, x19, u4, u5⟩ := kk
    have ap5 := h5.1.apart
    refine ⟨o19, Ab', Be', Cm', h19, ?_, m2, ?_, ⟨by rw [u5 q (by omega)]; exact q0, fun i i3 i4 => by rw [u4 i i3 i4, q1], by rw [u5 _ (by omega)]; exact q21, by rw [u5 p (by omega)]; exact qp5, by rw [u5 O (by omega)]; exact qO, by rw [u5 P (by omega)]; exact qP, by rw [(h5.1.words x19.1).1]; exact qA⟩, Or.inl rfl⟩
    · have f19 : FA (fun x => x = q + 1) (fun _ => False) M5 M19 := ⟨⟨by rw [x19.1.2.2.2.2.1]; exact Nat.le_refl _, by rw [x19.1.2.2.2.2.2.1]; exact Nat.le_refl _⟩, fun x _ => ⟨by rw [x19.1.1], by rw [x19.1.2.1], by rw [x19.1.2.2.2.1], fun _ => by rw [x19.1.2.2.1], fun y => u5 x y⟩⟩
      exact m1'.trans2 f19 (fun x _ y => Or.inl y) (fun _ _ y => y.elim)
    · rw [x19.1.2.2.2.2.1, x19.1.2.2.2.2.2.1]
      exact m3)
  have k5m := h5.1.2.2.2.1
  obtain ⟨r0, r1, r2, r3, r4, r5⟩ := h5.1.2.1
  have rB : mR M5 (q + 11) 7 = Be' := k5m.2.1.2.2.2.1
  rw [r1, r2, r5, rB]
  refine ⟨i6, h5.1.1.1, fun y => ⟨r0, k5m.1, h5.1.1.2.1.1, ?_⟩, fun y => ⟨fun _ => ⟨r0, k5m.1, k5m.2.2.1.2.2.2.1, ⟨by omega, ?_⟩⟩, fun _ => ?_, fun y2 => ⟨r0, h5.1.2.2.1.2.1, ⟨by omega, by rw [h5.1.2.2.1.2.2.2]; omega⟩, h5.1.1.2.1.1, nt (i32s (by omega) (by omega)) (h5.1.1.1 _ _).1⟩⟩⟩
  · exact nt (h5.1.1.1 _ _).1 (h5.1.1.1 _ _).1
  · have := k5m.2.2.2.1.2.2.1
    have := k5m.2.2.2.2.2.2.2
    omega
  · exact ⟨Ab', Be', Cm', h5, m1', m2, m3, ⟨q0, fun i _ _ => by rw [q1], q21, qp5, qO, qP, qA⟩, Or.inr ⟨by rcases k5 with u | u <;> omega, by rw [q1]; exact h0, hb5 y⟩⟩
end TRG
end
section
/-! The class's reader of texts: a name is settled. -/
section TRH
variable {G : mG} {d z q w T A B D N C n p O P K Ab Be Cm V F c s s' L L' cnt Bn a d0 V1 F1 nw k e s9 Ab0 Be0 Cm0 Ab1 Be1 Cm1 : Nat} {M0 M M' M1 M2 : mM} {ns ns' ns1 : Nat → Int} {sf ef sf' ef' : Nat → Nat} {H : Nat → Nat} {S R : Nat → Prop}
/-- what reading a text may change, with the room that it takes -/
def trS (q p O P Ab Be : Nat) : Nat → Prop := fun x => txS q p O P x ∨ mcS (q + 11) Ab Be x
def trF (M0 : mM) (q p O P Ab0 Be0 Cm0 : Nat) (M : mM) (Ab Be Cm : Nat) : Prop := FA (trS q p O P Ab0 Be0) (fun x => x = q + 11) M0 M ∧ ((Ab = Ab0 ∨ mZ M0 ≤ Ab) ∧ (Be = Be0 ∨ mZ M0 ≤ Be)) ∧ (mS M + 4 * Cm0 = mS M0 + 4 * Cm ∧ 32 * mZ M + Cm0 ≤ 32 * mZ M0 + Cm)
theorem trF.refl : trF M q p O P Ab Be Cm M Ab Be Cm := ⟨FA.refl, ⟨Or.inl rfl, Or.inl rfl⟩, rfl, Nat.le_refl _⟩
theorem trF.trans (f : trF M0 q p O P Ab0 Be0 Cm0 M Ab Be Cm) (g : trF M q p O P Ab Be Cm M1 Ab1 Be1 Cm1) : trF M0 q p O P Ab0 Be0 Cm0 M1 Ab1 Be1 Cm1 := by
  obtain ⟨f1, ⟨f2, f3⟩, f4, f5⟩ := f
  obtain ⟨g1, ⟨g2, g3⟩, g4, g5⟩ := g
  have zz := f1.1.1
  refine ⟨f1.trans2 g1 (fun x hx y => ?_) (fun _ _ y => y), ⟨by omega, by omega⟩, by omega, by omega⟩
  rcases y with y | y
  · exact Or.inl y
  · refine Or.inr ?_
    have y' : x = q + 11 ∨ x = q + 11 + 2 ∨ (q + 11 + 5 ≤ x ∧ x ≤ q + 11 + 9) ∨ x = Ab ∨ x = Be := y
    show x = q + 11 ∨ x = q + 11 + 2 ∨ (q + 11 + 5 ≤ x ∧ x ≤ q + 11 + 9) ∨ x = Ab0 ∨ x = Be0
    omega
theorem trF.fi (f : FI (txS q p O P) M M1) : trF M q p O P Ab Be Cm M1 Ab Be Cm := ⟨(FI.fa f).mono (fun _ _ y => Or.inl y) (fun _ _ y => y), ⟨Or.inl rfl, Or.inl rfl⟩, by rw [f.2.2.2.2.2.1], by rw [f.2.2.2.2.1]; omega⟩
/-- an item has been read and settled -/
def itE (M0 : mM) (z q w T A B D N C n p O P K Ab0 Be0 Cm0 : Nat) (M' : mM) : Prop := ∃ (Ab Be Cm V F : Nat) (ns : Nat → Int) (sf ef : Nat → Nat) (c cnt L a : Nat), TX M' z q w T A B D N C n p O P K Ab Be Cm V F ns sf ef c cnt L ∧ mI M' p 2 = ((L : Nat) : Int) ∧ mI M' (q + 1) 2 = ((a : Nat) : Int) ∧ a ≤ n ∧ L ≤ a ∧ mI M' (q + 1) 5 = 0 ∧ trF M0 q p O P Ab0 Be0 Cm0 M' Ab Be Cm
def un (ns : Nat → Int) (F : Nat) (l : Int) : Nat → Int := fun x => if x = F then l else ns x
def uf (sf : Nat → Nat) (F v : Nat) : Nat → Nat := fun x => if x = F then v else sf x
theorem PX.cg (h : PX M q p O P V F ns sf ef L cnt) (f3 : mI M (q + 1) 3 ≠ 0 → mI M' (q + 1) 3 ≠ 0) (f5 : ∀ i, i ≠ 2 → mI M' p i = mI M p i) (f6 : ∀ i, 3 ≤ i → i ≤ 15 → mI M' (p + i) = mI M (p + i)) (f7 : ∀ i, i < L → mI M' O i = mI M O i ∧ mI M' P i = mI M P i) : PX M' q p O P V F ns sf ef L cnt := by
  obtain ⟨a1, a2⟩ := h
  refine ⟨by rw [f5 12 (by decide)]; exact a1, fun h0 => ?_⟩
  obtain ⟨u, e, g1, g2, g3, g4, g5, g6, g7⟩ := a2 (Classical.byContradiction (fun y => f3 y h0))
  have cg : ∀ {s h : Nat}, PC M O P V F ns ef L s h → PC M' O P V F ns ef L s h := fun hc => hc.cg (fun i hi => (f7 i hi).1) (fun i hi => (f7 i hi).2)
  refine ⟨u, by rw [f6 12 (by omega) (by omega)]; exact e, g1.cg (fun i hi => (f7 i hi).1) (fun i hi => (f7 i hi).2) (fun i _ => by rw [f6 7 (by omega) (by omega)]) (fun i _ => by rw [f6 8 (by omega) (by omega)]), ?_, fun j hj => ?_, by rw [f6 12 (by omega) (by omega)]; exact g4, by rw [f6 12 (by omega) (by omega)]; exact g5, by rw [f6 12 (by omega) (by omega)]; exact g6, fun b hb => ?_⟩
  · rw [f5 11 (by decide)]
    exact g2.imp (fun y => y) (fun ⟨s, y1, y2⟩ => ⟨s, y1, cg y2⟩)
  · obtain ⟨s, y1, y2⟩ := g3 j hj
    exact ⟨s, by rw [f6 11 (by omega) (by omega)]; exact y1, cg y2⟩
  · obtain ⟨s1, s2, y1, y2, y3, y4⟩ := g7 b hb
    exact ⟨s1, s2, by rw [f6 14 (by omega) (by omega)]; exact y1, cg y2, by rw [f6 15 (by omega) (by omega)]; exact y3, cg y4⟩
/-- one name more: a const with its value, or a formula with its code -/
theorem PG.name {l1 : Int} (h : PG M p O P V F ns sf ef L cnt Bn) (hLL : L ≤ L') (f7 : ∀ i, i < L → mI M' O i = mI M O i ∧ mI M' P i = mI M P i) (h11 : mI M' p 11 = mI M p 11) (f6 : ∀ i, 9 ≤ i → i ≤ 15 → mI M' (p + i) = mI M (p + i)) (h7 : ∀ i, i < F → mI M' (p + 7) i = mI M (p + 7) i) (h8 : ∀ i, i < F → mI M' (p + 8) i = mI M (p + 8) i) (new : (l1 = 4 ∧ 1 ≤ mI M' (p + 7) F ∧ mI M' (p + 7) F < 1000000000) ∨ (l1 = 7 ∧ mI M' (p + 8) F = ((L : Nat) : Int) ∧ Cod M' O P V F ns L e H 1 ∧ e < L')) : PG M' p O P V (F + 1) (un ns F l1) (uf sf F L) (uf ef F e) L' cnt Bn := by
  obtain ⟨g1, g2, g3, g4, g5, g6, g7⟩ := h
  have un0 : ∀ x, x < F → un ns F l1 x = ns x := fun x hx => by unfold un; rw [if_neg (by omega)]
  have ue0 : ∀ x, x < F → uf ef F e x = ef x := fun x hx => by unfold uf; rw [if_neg (by omega)]
  have us0 : ∀ x, x < F → uf sf F L x = sf x := fun x hx => by unfold uf; rw [if_neg (by omega)]
  have unF : un ns F l1 F = l1 := by unfold un; rw [if_pos rfl]
  have ueF : uf ef F e F = e := by unfold uf; rw [if_pos rfl]
  have usF : uf sf F L F = L := by unfold uf; rw [if_pos rfl]
  have cg : ∀ {s h : Nat}, PC M O P V F ns ef L s h → PC M' O P V (F + 1) (un ns F l1) (uf ef F e) L' s h := fun hc => (hc.cg (M' := M') (fun i hi => (f7 i hi).1) (fun i hi => (f7 i hi).2)).wide (Nat.le_refl _) (Nat.le_succ _) hLL (fun x hx => ⟨un0 x hx, ue0 x hx⟩)
  refine ⟨fun x hx => ?_, ?_, fun j hj => ?_, by rw [f6 12 (by omega) (by omega)]; exact g4, by rw [f6 12 (by omega) (by omega)]; exact g5, by rw [f6 12 (by omega) (by omega)]; exact g6, fun b hb => ?_⟩
  · by_cases y : x = F
    · subst y
      rw [unF, usF, ueF]
      rcases new with ⟨u1, u2, u3⟩ | ⟨u1, u2, u3, u4⟩
      · exact ⟨fun _ => ⟨u2, u3⟩, fun v => absurd (u1.symm.trans v) (by decide)⟩
      · refine ⟨fun v => absurd (u1.symm.trans v) (by decide), fun _ => ⟨u2, ⟨H, u3.wide (Nat.le_refl _) (Nat.le_refl _) (fun y hy => un0 y hy)⟩, u4, fun y hy v => ?_⟩⟩
        rw [ue0 y hy]
        rw [un0 y hy] at v
        exact ((g1 y hy).2 v).2.2.1
    · have hxF : x < F := by omega
      obtain ⟨a1, a2⟩ := g1 x hxF
      rw [un0 x hxF, us0 x hxF, ue0 x hxF, h7 x hxF, h8 x hxF]
      refine ⟨a1, fun v => ?_⟩
      obtain ⟨b1, ⟨Hx, b2⟩, b3, b4⟩ := a2 v
      refine ⟨b1, ⟨Hx, (b2.cg (M' := M') (fun i hi => (f7 i (by omega)).1) (fun i hi => (f7 i (by omega)).2)).wide (Nat.le_refl _) (Nat.le_refl _) (fun y hy => un0 y (by omega))⟩, by omega, fun y hy v => ?_⟩
      rw [ue0 y (by omega)]
      rw [un0 y (by omega)] at v
      exact b4 y hy v
  · rw [h11]
    exact g2.imp (fun y => y) (fun ⟨s, y1, y2⟩ => ⟨s, y1, cg y2⟩)
  · obtain ⟨s, y1, y2⟩ := g3 j hj
    exact ⟨s, by rw [f6 11 (by omega) (by omega)]; exact y1, cg y2⟩
  · obtain ⟨s1, s2, y1, y2, y3, y4⟩ := g7 b hb
    exact ⟨s1, s2, by rw [f6 14 (by omega) (by omega)]; exact y1, cg y2, by rw [f6 15 (by omega) (by omega)]; exact y3, cg y4⟩
theorem tx_name {l1 : Int} (h : TX M z q w T A B D N C n p O P K Ab Be Cm V F ns sf ef c cnt L) (h0 : mI M (q + 1) 3 = 0) (h60 : F < 60) (ok : mOk M') (f : FI (txS q p O P) M M') (hr : ∀ i, i ≤ 9 → mI M' (q + 1 + i) = mI M (q + 1 + i)) (ep : ∀ i, i ≠ 2 → i ≠ 7 → mI M' p i = mI M p i) (e7 : mI M' p 7 = ((F + 1 : Nat) : Int)) (f6 : ∀ i, 9 ≤ i → i ≤ 15 → mI M' (p + i) = mI M (p + i)) (h7 : ∀ i, i < F → mI M' (p + 7) i = mI M (p + 7) i) (h8 : ∀ i, i < F → mI M' (p + 8) i = mI M (p + 8) i) (f7 : ∀ i, i < L → mI M' O i = mI M O i ∧ mI M' P i = mI M P i) (hLL : L ≤ L') (new : (l1 = 4 ∧ 1 ≤ mI M' (p + 7) F ∧ mI M' (p + 7) F < 1000000000) ∨ (l1 = 7 ∧ mI M' (p + 8) F = ((L : Nat) : Int) ∧ Cod M' O P V F ns L e H 1 ∧ e < L')) : TX M' z q w T A B D N C n p O P K Ab Be Cm V (F + 1) (un ns F l1) (uf sf F L) (uf ef F e) c cnt L' := by
  obtain ⟨hP, ⟨c1, c2, c3, c4⟩, x1, x2⟩ := h
  have hA := (hP.words f).1
  have r0 := hr 0 (by omega)
  rw [Nat.add_zero] at r0
  refine ⟨hP.fi ok f, ⟨by rw [ep 3 (by decide) (by decide)]; exact c1, ⟨e7, by omega⟩, ?_, fun j => by rw [show q + 6 = q + 1 + 5 by omega, hr 5 (by omega)]; exact c4 j⟩, by rw [ep 12 (by decide) (by decide)]; exact x1, fun _ => ?_⟩
  · obtain ⟨n1, n2, n3⟩ := c3
    refine ⟨by rw [r0]; exact n1, n2, fun i hi => ?_⟩
    obtain ⟨m1, m2, m3⟩ := n3 i hi
    rw [hA, hr 6 (by omega), hr 7 (by omega), hr 8 (by omega), hr 9 (by omega)]
    refine ⟨m1, ?_, m3⟩
    rcases m2 with u | ⟨u1, u2, u3, u4⟩
    · exact Or.inl u
    · refine Or.inr ⟨u1, u2, by omega, ?_⟩
      unfold un
      rw [if_neg (by omega)]
      exact u4
  · obtain ⟨u, eu, gu⟩ := x2 h0
    exact ⟨u, by rw [f6 12 (by omega) (by omega)]; exact eu, gu.name hLL f7 (ep 11 (by decide) (by decide)) f6 h7 h8 new⟩
/-- where a fault is noted, the tables don't matter -/
theorem TX.any (h : TX M z q w T A B D N C n p O P K Ab Be Cm V F ns sf ef c cnt L) (hL : mI M (q + 1) 3 = 0 → L ≤ L') : TX M z q w T A B D N C n p O P K Ab Be Cm V F ns sf ef c cnt L' := by
  obtain ⟨hP, hC, x1, x2⟩ := h
  refine ⟨hP, hC, x1, fun h0 => ?_⟩
  obtain ⟨u, eu, gu⟩ := x2 h0
  exact ⟨u, eu, gu.longer (hL h0)⟩
theorem s_sn115 {l1 : Int} (h4 : l1 = 4 ∨ l1 = 7) (h : TX M z q w T A B D N C n p O P K Ab Be Cm V (F + 1) (un ns F l1) sf ef c cnt L) (h60 : F < 60) (hn : mI M q 3 = ((nw : Nat) : Int) ∧ nw < n ∧ mI M A nw = 2) (h8 : mI M q 8 = 0 ∨ mI M q 8 = 1) (hp : mI M p 2 = ((L : Nat) : Int)) (ha : mI M (q + 1) 2 = ((a : Nat) : Int)) (han : a ≤ n) (hLa : L ≤ a) (hd : mI M (q + 1) 5 = 0) (hf : trF M0 q p O P Ab0 Be0 Cm0 M Ab Be Cm) : h_TR_settleNamed_115 G (d + 5) q l1 F M (itE M0 z q w T A B D N C n p O P K Ab0 Be0 Cm0) := by
  obtain ⟨⟨np0, np1, -, -⟩, ⟨nO0, nO1, -, -, nOp⟩, nP0, nP1, -, -, nPp⟩ := h.1.ne
  have ap := h.1.apart
  have qp := h.1.2.2.2.2.2.1.2.1
  have ok := h.1.1.1
  obtain ⟨t0, t1, t2, t3, t4, t5⟩ := h.1.2.1
  refine k_TR_settleNamed_115 ok (i32s (by omega) (by omega)) (i32s (by omega) (by omega)) ?_
  rw [t1, hn.1]
  refine ⟨t0, h.1.1.2.1.1, (s_RR_know (v := nw) h.1.1 h.2.1.2.2.1 hn.2.1 hn.2.2 (i32s (by omega) (by omega)) (i32s (by omega) (by omega)) h8 (Or.inr ⟨h4, by omega, by omega, ?_⟩)).mono (fun M84 k => ?_)⟩
  · unfold un
    rw [if_pos (by omega)]
  obtain ⟨k1, k2, k3, k4, c', k5, -⟩ := k
  have f84 : FI (txS q p O P) M M84 := k2.mono (fun b y => Or.inl (by have y' : q + 1 ≤ b ∧ b ≤ q + 1 + 9 := y; omega))
  have nb : ∀ b, (b < q + 1 ∨ q + 1 + 9 < b) → mI M84 b = mI M b := fun b hb => k2.2.2.2.2.2.2 b (fun y => by have y' : q + 1 ≤ b ∧ b ≤ q + 1 + 9 := y; omega)
  have h84 : TX M84 z q w T A B D N C n p O P K Ab Be Cm V (F + 1) (un ns F l1) sf ef c' cnt L := by
    obtain ⟨hP, ⟨c1, c2, c3, c4⟩, hX⟩ := h
    refine ⟨hP.fi k1.1 f84, ⟨by rw [nb p (by omega)]; exact c1, by rw [nb p (by omega)]; exact c2, k5, fun j => by rw [show q + 6 = q + 1 + 5 by omega, k4 5 (by omega) (by omega)]; exact c4 j⟩, hX.cg (fun y => by rw [k3 3 (by decide)]; exact y) (fun i _ => by rw [nb p (by omega)]) (fun i _ _ => nb _ (by omega)) (fun i _ => ⟨by rw [nb O (by omega)], by rw [nb P (by omega)]⟩)⟩
  exact ⟨k1.1, Ab, Be, Cm, V, F + 1, un ns F l1, sf, ef, c', cnt, L, a, h84, by rw [nb p (by omega)]; exact hp, by rw [k3 2 (by decide)]; exact ha, han, hLa, by rw [k3 5 (by decide)]; exact hd, hf.trans (trF.fi f84)⟩
end TRH
end
