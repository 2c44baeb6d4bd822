/-! The class's reader of texts: worksOut. -/
section TRG
variable {G : mG} {d z q w T A B D N C n p O P K Ab Be Cm V F c s s' L L' cnt Bn a d0 V1 F1 nw k e s9 : Nat} {M0 M M' M1 M2 : mM} {ns ns' ns1 : Nat → Int} {sf ef sf' ef' : Nat → Nat} {H : Nat → Nat} {S R : Nat → Prop}
/-- a run of the machine: what stays -/
def maF (M : mM) (q Ab Be Cm : Nat) (M' : mM) (Ab' Be' Cm' : Nat) : Prop := FA (mcS (q + 11) Ab Be) (fun x => x = q + 11) M M' ∧ ((Ab' = Ab ∨ mZ M ≤ Ab') ∧ (Be' = Be ∨ mZ M ≤ Be')) ∧ (mS M' + 4 * Cm = mS M + 4 * Cm' ∧ 32 * mZ M' + Cm ≤ 32 * mZ M + Cm')
def sm4 (M M' : mM) (x : Nat) : Prop := mK M' x = mK M x ∧ mN M' x = mN M x ∧ mR M' x = mR M x ∧ mI M' x = mI M x
theorem RK.eq {r : Nat} (h : RK M r) (v : ∀ i, i ≤ 9 → sm4 M M' (r + i)) : RK M' r := by
  unfold RK at h ⊢
  have v0 := v 0 (by omega)
  rw [Nat.add_zero] at v0
  rw [v0.1, v0.2.2.1, (v 1 (by omega)).1, (v 2 (by omega)).1, (v 3 (by omega)).1, (v 4 (by omega)).1, (v 5 (by omega)).1, (v 6 (by omega)).1, (v 7 (by omega)).1, (v 8 (by omega)).1, (v 9 (by omega)).1, (v 1 (by omega)).2.1, (v 2 (by omega)).2.1, (v 3 (by omega)).2.1, (v 4 (by omega)).2.1, (v 5 (by omega)).2.1, (v 6 (by omega)).2.1, (v 7 (by omega)).2.1, (v 8 (by omega)).2.1, (v 9 (by omega)).2.1]
  exact h
theorem Wf.eq (h : Wf M w T A B D N C n) (sw : ∀ x, (x = w ∨ x = T ∨ x = A ∨ x = B ∨ x = D) → sm4 M M' x) : Wf M' w T A B D N C n := by
  unfold Wf WA at h ⊢
  obtain ⟨w1, w2, w3, w4⟩ := sw w (Or.inl rfl)
  obtain ⟨x1, x2, x3, x4⟩ := sw T (Or.inr (Or.inl rfl))
  obtain ⟨y1, y2, y3, y4⟩ := sw A (Or.inr (Or.inr (Or.inl rfl)))
  obtain ⟨z1, z2, z3, z4⟩ := sw B (Or.inr (Or.inr (Or.inr (Or.inl rfl))))
  obtain ⟨v1, v2, v3, v4⟩ := sw D (Or.inr (Or.inr (Or.inr (Or.inr rfl))))
  rw [w1, w3, w4, x1, x2, y1, y2, y4, z1, z2, z4, v1, v2, v4]
  exact h
theorem TP.st (h : TP M z q w T A B D N C n p O P K Ab Be Cm) (hf : FA (mcS (q + 11) Ab Be) (fun x => x = q + 11) M M') : ∀ x, x < mZ M → ¬ (q + 11 ≤ x ∧ x ≤ q + 20) → x ≠ Ab → x ≠ Be → sm4 M M' x := fun x hx h1 h2 h3 => by
  obtain ⟨u1, u2, u3, u4, u5⟩ := hf.2 x hx
  refine ⟨u1, u2, u4 (show ¬ x = q + 11 by omega), u5 (fun y => ?_)⟩
  have y' : x = q + 11 ∨ x = q + 11 + 2 ∨ (q + 11 + 5 ≤ x ∧ x ≤ q + 11 + 9) ∨ x = Ab ∨ x = Be := y
  omega
theorem TP.mst (h : TP M z q w T A B D N C n p O P K Ab Be Cm) (hf : FA (mcS (q + 11) Ab Be) (fun x => x = q + 11) M M') : (∀ i, i ≤ 10 → sm4 M M' (q + i)) ∧ sm4 M M' (q + 21) ∧ sm4 M M' (q + 22) ∧ (∀ i, i ≤ 15 → sm4 M M' (p + i)) ∧ sm4 M M' O ∧ sm4 M M' P ∧ (∀ x, (x = w ∨ x = T ∨ x = A ∨ x = B ∨ x = D) → sm4 M M' x) := by
  have st := h.st hf
  obtain ⟨⟨aA1, aA2, aA3, aA4, aA5, aA6⟩, aO, aP, aO2, aP2, aOP⟩ := h.apart
  have zz : z ≤ mZ M := h.2.2.2.1.2.2.2.2.2.2.1.1
  obtain ⟨pz0, pz1, pz2⟩ := h.1.2.2.2.2.1.2.2.2.2.1
  obtain ⟨s1, s2, s3⟩ := h.2.2.2.2.2.1
  clear h hf
  refine ⟨fun i hi => st _ (by omega) (by omega) (by omega) (by omega), st _ (by omega) (by omega) (by omega) (by omega), st _ (by omega) (by omega) (by omega) (by omega), fun i hi => st _ (by omega) (by omega) (by omega) (by omega), st O pz1 (by omega) (by omega) (by omega), st P pz2 (by omega) (by omega) (by omega), fun x hx => ?_⟩
  obtain ⟨u1, u2, u3, u4⟩ := s3 x hx
  exact st x u4 (by omega) u2 u3
theorem TP.ma {Ab' Be' Cm' : Nat} (h : TP M z q w T A B D N C n p O P K Ab Be Cm) (ok : mOk M') (hk : MK M' z (q + 11) (q + 12) Ab' Be' Cm') (hf : FA (mcS (q + 11) Ab Be) (fun x => x = q + 11) M M') (hab : (Ab' = Ab ∨ mZ M ≤ Ab') ∧ (Be' = Be ∨ mZ M ≤ Be')) (h0 : mR M' (q + 11) 0 = mR M (q + 11) 0) : TP M' z q w T A B D N C n p O P K Ab' Be' Cm' := by
  obtain ⟨m1, m2, m3, m4, m5, m6, m7⟩ := h.mst hf
  have np : ¬ p = q + 11 := by have := h.apart.1.1; omega
  obtain ⟨⟨b1, b2, b3, b4, b5, b6, b7⟩, t1, t2, t3, t4, ⟨s1, s2, s3⟩, s4⟩ := h
  obtain ⟨pz0, pz1, pz2⟩ := b5.2.2.2.2.1
  have s0 := m1 0 (by omega)
  have r0 := m1 1 (by omega)
  rw [Nat.add_zero] at s0
  have zz := hf.1.1
  refine ⟨⟨ok, b2.eq (fun i hi => by rw [show q + 1 + i = q + (1 + i) by omega]; exact m1 _ (by omega)), by rw [r0.2.2.1]; exact b3, b4.eq m7, b5.fa hf np, b6, b7⟩, by rw [s0.1, s0.2.2.1]; exact t1, by rw [m2.1, m3.1, m2.2.1, m3.2.1]; exact t2, hk, by rw [h0]; exact t4, ⟨s1, s2, fun x hx => ?_⟩, ?_⟩
  · obtain ⟨u1, u2, u3, u4⟩ := s3 x hx
    clear b1 b2 b3 b4 b5 b6 t1 t2 t3 t4 hk
    exact ⟨u1, by omega, by omega, by omega⟩
  · clear b1 b2 b3 b4 b5 b6 t1 t2 t3 t4 hk
    omega
theorem TX.ma {t cc : Nat} (h : TX M z q w T A B D N C n p O P K Ab Be Cm V F ns sf ef c cnt L) (hM : MS M z (q + 11) (q + 12) Ab Be Cm M' t cc) : ∃ Ab' Be' Cm', TX M' z q w T A B D N C n p O P K Ab' Be' Cm' V F ns sf ef c cnt L ∧ maF M q Ab Be Cm M' Ab' Be' Cm' ∧ (∀ j, j < t → 1 ≤ mI M' Be' j ∧ mI M' Be' j < 1000000000) ∧ (mI M' q = mI M q ∧ mI M' (q + 1) = mI M (q + 1) ∧ mI M' (q + 21) = mI M (q + 21) ∧ mI M' (q + 22) = mI M (q + 22) ∧ mI M' p = mI M p ∧ mI M' O = mI M O ∧ mI M' P = mI M P ∧ mI M' A = mI M A) := by
  obtain ⟨Ab', Be', Cm', ok, hk, hf, hab, hr, ⟨h8, htC, hb⟩, h15, hm⟩ := hM
  obtain ⟨hP, hC, hX⟩ := h
  obtain ⟨m1, m2, m3, m4, m5, m6, m7⟩ := hP.mst hf
  have s0 := m1 0 (by omega)
  have r0 := m1 1 (by omega)
  rw [Nat.add_zero] at s0
  have p0 := m4 0 (by omega)
  rw [Nat.add_zero] at p0
  have eE : txE M q p O P L M' := ⟨fun i _ _ _ _ _ _ _ _ => by rw [r0.2.2.2], fun y => by rw [r0.2.2.2]; exact y, fun i i6 i9 => by rw [show q + 1 + i = q + (1 + i) by omega]; exact (m1 (1 + i) (by omega)).2.2.2, fun i _ => by rw [p0.2.2.2], fun i _ i15 => (m4 i i15).2.2.2, fun i _ => ⟨by rw [m5.2.2.2], by rw [m6.2.2.2]⟩⟩
  have mA := (m7 A (Or.inr (Or.inr (Or.inl rfl)))).2.2.2
  exact ⟨Ab', Be', Cm', ⟨hP.ma ok hk hf hab hm.2.2, hC.tx mA eE (fun j => by rw [(m1 6 (by omega)).2.2.2]; exact hC.2.2.2 j), hX.tx eE⟩, ⟨hf, hab, hr⟩, hb, s0.2.2.2, r0.2.2.2, m2.2.2.2, m3.2.2.2, p0.2.2.2, m5.2.2.2, m6.2.2.2, mA⟩
/-- what working out a rule comes to -/
def wuQ (M : mM) (z q w T A B D N C n p O P K Ab Be Cm V F : Nat) (ns : Nat → Int) (sf ef : Nat → Nat) (c cnt L : Nat) (x : Int) (M' : mM) : Prop := ∃ Ab' Be' Cm', TX M' z q w T A B D N C n p O P K Ab' Be' Cm' V F ns sf ef c cnt L ∧ FA (fun x => x = q + 1 ∨ mcS (q + 11) Ab Be x) (fun x => x = q + 11) M M' ∧ ((Ab' = Ab ∨ mZ M ≤ Ab') ∧ (Be' = Be ∨ mZ M ≤ Be')) ∧ (mS M' + 4 * Cm = mS M + 4 * Cm' ∧ 32 * mZ M' + Cm ≤ 32 * mZ M + Cm') ∧ (mI M' q = mI M q ∧ (∀ i, i ≠ 3 → i ≠ 4 → mI M' (q + 1) i = mI M (q + 1) i) ∧ mI M' (q + 21) = mI M (q + 21) ∧ mI M' p = mI M p ∧ mI M' O = mI M O ∧ mI M' P = mI M P ∧ mI M' A = mI M A) ∧ ((x = 0) ∨ (x = 1 ∧ mI M' (q + 1) 3 = 0 ∧ 1 ≤ mI M' Be' 0 ∧ mI M' Be' 0 < 1000000000))
theorem s_TR_worksOut {l2 : Int} (hF : FMs G) (hk : k < 3) (i2 : i32 l2) (h : TX M z q w T A B D N C n p O P K Ab Be Cm V F ns sf ef c cnt L) (h0 : mI M (q + 1) 3 = 0) (hr : mI M (q + 21) k = ((s : Nat) : Int)) (cd : Cod M O P V1 F ns1 s e H 1) (n7 : ∀ y, y < F → ns1 y ≠ 7) (n4 : ∀ y, y < F → ns1 y = 4 → ns y = 4) (hV1 : V1 ≤ 12) (hp2 : mI M p 2 = ((s9 : Nat) : Int)) (he9 : e < s9) (hs9 : s9 ≤ n) : Ci G y_TR_worksOut (d + 5) [vr q, vi k, vi l2] M (wuQ M z q w T A B D N C n p O P K Ab Be Cm V F ns sf ef c cnt L) := by
  have ap := h.1.apart
  have qp := h.1.2.2.2.2.2.1.2.1
  have ok := h.1.1.1
  have hK := h.1.1.2.2.2.2.2.2
  have hN : n ≤ 16384 := by have := h.1.1.2.2.2.1.2.2.1; have := h.1.1.2.2.2.1.1.2.2.2.2.2.2.1; omega
  obtain ⟨t0, t1, t2, t3, t4, t5⟩ := h.1.2.1
  obtain ⟨s1, s2, s3, s4⟩ := h.1.2.2.1
  obtain ⟨u, eu, gu⟩ := h.2.2.2 h0
  have fo : FO M p O P V1 ns1 sf ef s9 F := fun x hx => ⟨fun y => (gu.1 x hx).1 (n4 x hx y), fun y => absurd y (n7 x hx)⟩
  refine k_TR_worksOut ok (i32s (by omega) (by omega)) i2 ?_
  rw [t2, t4, s3, Int.toNat_natCast, hr]
  refine ⟨t0, s1, by omega, h.1.2.2.2.1.1, (s_Ma_run (X := fun _ => False) hF ok h.1.2.2.2.1 (fun x hx => hx.elim) h.1.1.2.2.2.2.1 h.1.2.2.2.2.1 ap.1 hp2 (by omega) (by omega) fo (fun x hx y => absurd y (n7 x hx)) h.2.1.2.1.2 hV1 cd he9 (fun y hy y7 => absurd y7 (n7 y hy))).mono (fun x6 M5 k5 => ?_)⟩
  obtain ⟨-, k5⟩ := k5
  have i6 : i32 x6 := by rcases k5 with u | u <;> rw [u.1] <;> exact i32s (by omega) (by omega)
  obtain ⟨Ab', Be', Cm', h5, ⟨m1, m2, m3⟩, hb5, q0, q1, q21, q22, qp5, qO, qP, qA⟩ : ∃ Ab' Be' Cm', TX M5 z q w T A B D N C n p O P K Ab' Be' Cm' V F ns sf ef c cnt L ∧ maF M q Ab Be Cm M5 Ab' Be' Cm' ∧ (¬ (x6 = 0) → 1 ≤ mI M5 Be' 0 ∧ mI M5 Be' 0 < 1000000000) ∧ (mI M5 q = mI M q ∧ mI M5 (q + 1) = mI M (q + 1) ∧ mI M5 (q + 21) = mI M (q + 21) ∧ mI M5 (q + 22) = mI M (q + 22) ∧ mI M5 p = mI M p ∧ mI M5 O = mI M O ∧ mI M5 P = mI M P ∧ mI M5 A = mI M A) := by
    rcases k5 with ⟨e1, -, t, cc, hM⟩ | ⟨e1, hM⟩
    · obtain ⟨Ab', Be', Cm', v1, v2, v3, v4⟩ := h.ma hM
      exact ⟨Ab', Be', Cm', v1, v2, fun y => absurd e1 y, v4⟩
    · obtain ⟨Ab', Be', Cm', v1, v2, v3, v4⟩ := h.ma hM
      exact ⟨Ab', Be', Cm', v1, v2, fun _ => v3 0 (by omega), v4⟩
  have m1' : FA (fun x => x = q + 1 ∨ mcS (q + 11) Ab Be x) (fun x => x = q + 11) M M5 := m1.mono (fun _ _ y => Or.inr y) (fun _ _ y => y)
  have nt : ∀ {y zz : Int}, i32 y → i32 zz → Cv G y_RR_note (d + 4) [vr (q + 1), vi y, vi zz] M5 (fun M19 => mOk M19 ∧ wuQ M z q w T A B D N C n p O P K Ab Be Cm V F ns sf ef c cnt L 0 M19) := fun {y zz} iy iz => (s_tx_note0 iy iz h5).mono (fun M19 kk => by
    obtain ⟨o19, h19, x19, u4, u5⟩ := kk
    have ap5 := h5.1.apart
    refine ⟨o19, Ab', Be', Cm', h19, ?_, m2, ?_, ⟨by rw [u5 q (by omega)]; exact q0, fun i i3 i4 => by rw [u4 i i3 i4, q1], by rw [u5 _ (by omega)]; exact q21, by rw [u5 p (by omega)]; exact qp5, by rw [u5 O (by omega)]; exact qO, by rw [u5 P (by omega)]; exact qP, by rw [(h5.1.words x19.1).1]; exact qA⟩, Or.inl rfl⟩
    · have f19 : FA (fun x => x = q + 1) (fun _ => False) M5 M19 := ⟨⟨by rw [x19.1.2.2.2.2.1]; exact Nat.le_refl _, by rw [x19.1.2.2.2.2.2.1]; exact Nat.le_refl _⟩, fun x _ => ⟨by rw [x19.1.1], by rw [x19.1.2.1], by rw [x19.1.2.2.2.1], fun _ => by rw [x19.1.2.2.1], fun y => u5 x y⟩⟩
      exact m1'.trans2 f19 (fun x _ y => Or.inl y) (fun _ _ y => y.elim)
    · rw [x19.1.2.2.2.2.1, x19.1.2.2.2.2.2.1]
      exact m3)
  have k5m := h5.1.2.2.2.1
  obtain ⟨r0, r1, r2, r3, r4, r5⟩ := h5.1.2.1
  have rB : mR M5 (q + 11) 7 = Be' := k5m.2.1.2.2.2.1
  rw [r1, r2, r5, rB]
  refine ⟨i6, h5.1.1.1, fun y => ⟨r0, k5m.1, h5.1.1.2.1.1, ?_⟩, fun y => ⟨fun _ => ⟨r0, k5m.1, k5m.2.2.1.2.2.2.1, ⟨by omega, ?_⟩⟩, fun _ => ?_, fun y2 => ⟨r0, h5.1.2.2.1.2.1, ⟨by omega, by rw [h5.1.2.2.1.2.2.2]; omega⟩, h5.1.1.2.1.1, nt (i32s (by omega) (by omega)) (h5.1.1.1 _ _).1⟩⟩⟩
  · exact nt (h5.1.1.1 _ _).1 (h5.1.1.1 _ _).1
  · have := k5m.2.2.2.1.2.2.1
    have := k5m.2.2.2.2.2.2.2
    omega
  · exact ⟨Ab', Be', Cm', h5, m1', m2, m3, ⟨q0, fun i _ _ => by rw [q1], q21, qp5, qO, qP, qA⟩, Or.inr ⟨by rcases k5 with u | u <;> omega, by rw [q1]; exact h0, hb5 y⟩⟩
end TRG
