section
/-! The class's reader of texts: var, the whole. -/
section TRF
variable {G : mG} {d z q w T A B D N C n p O P K Ab Be Cm V F c s s' L L' cnt Bn a d0 V1 F1 nw k : Nat} {M0 M M' M1 M2 : mM} {ns ns' ns1 : Nat → Int} {sf ef sf' ef' : Nat → Nat} {H : Nat → Nat} {S R : Nat → Prop}
end TRF
end
section
/-! The class's reader of texts: worksOut. -/
section TRG
variable {G : mG} {d z q w T A B D N C n p O P K Ab Be Cm V F c s s' L L' cnt Bn a d0 V1 F1 nw k e s9 : Nat} {M0 M M' M1 M2 : mM} {ns ns' ns1 : Nat → Int} {sf ef sf' ef' : Nat → Nat} {H : Nat → Nat} {S R : Nat → Prop}
/-- a run of the machine: what stays -/
def maF (M : mM) (q Ab Be Cm : Nat) (M' : mM) (Ab' Be' Cm' : Nat) : Prop := FA (mcS (q + 11) Ab Be) (fun x => x = q + 11) M M' ∧ ((Ab' = Ab ∨ mZ M ≤ Ab') ∧ (Be' = Be ∨ mZ M ≤ Be')) ∧ (mS M' + 4 * Cm = mS M + 4 * Cm' ∧ 32 * mZ M' + Cm ≤ 32 * mZ M + Cm')
def sm4 (M M' : mM) (x : Nat) : Prop := mK M' x = mK M x ∧ mN M' x = mN M x ∧ mR M' x = mR M x ∧ mI M' x = mI M x
theorem RK.eq {r : Nat} (h : RK M r) (v : ∀ i, i ≤ 9 → sm4 M M' (r + i)) : RK M' r := by
  unfold RK at h ⊢
  have v0 := v 0 (by omega)
  rw [Nat.add_zero] at v0
  rw [v0.1, v0.2.2.1, (v 1 (by omega)).1, (v 2 (by omega)).1, (v 3 (by omega)).1, (v 4 (by omega)).1, (v 5 (by omega)).1, (v 6 (by omega)).1, (v 7 (by omega)).1, (v 8 (by omega)).1, (v 9 (by omega)).1, (v 1 (by omega)).2.1, (v 2 (by omega)).2.1, (v 3 (by omega)).2.1, (v 4 (by omega)).2.1, (v 5 (by omega)).2.1, (v 6 (by omega)).2.1, (v 7 (by omega)).2.1, (v 8 (by omega)).2.1, (v 9 (by omega)).2.1]
  exact h
theorem Wf.eq (h : Wf M w T A B D N C n) (sw : ∀ x, (x = w ∨ x = T ∨ x = A ∨ x = B ∨ x = D) → sm4 M M' x) : Wf M' w T A B D N C n := by
  unfold Wf WA at h ⊢
  obtain ⟨w1, w2, w3, w4⟩ := sw w (Or.inl rfl)
  obtain ⟨x1, x2, x3, x4⟩ := sw T (Or.inr (Or.inl rfl))
  obtain ⟨y1, y2, y3, y4⟩ := sw A (Or.inr (Or.inr (Or.inl rfl)))
  obtain ⟨z1, z2, z3, z4⟩ := sw B (Or.inr (Or.inr (Or.inr (Or.inl rfl))))
  obtain ⟨v1, v2, v3, v4⟩ := sw D (Or.inr (Or.inr (Or.inr (Or.inr rfl))))
  rw [w1, w3, w4, x1, x2, y1, y2, y4, z1, z2, z4, v1, v2, v4]
  exact h
theorem TP.st (h : TP M z q w T A B D N C n p O P K Ab Be Cm) (hf : FA (mcS (q + 11) Ab Be) (fun x => x = q + 11) M M') : ∀ x, x < mZ M → ¬ (q + 11 ≤ x ∧ x ≤ q + 20) → x ≠ Ab → x ≠ Be → sm4 M M' x := fun x hx h1 h2 h3 => by
  obtain ⟨u1, u2, u3, u4, u5⟩ := hf.2 x hx
  refine ⟨u1, u2, u4 (show ¬ x = q + 11 by omega), u5 (fun y => ?_)⟩
  have y' : x = q + 11 ∨ x = q + 11 + 2 ∨ (q + 11 + 5 ≤ x ∧ x ≤ q + 11 + 9) ∨ x = Ab ∨ x = Be := y
  omega
theorem ms9a {q z A x k : Nat} (a5 : A = q + 11 + k ∨ z ≤ A) (hk : k ≤ 9) (hz : q + 23 ≤ z) (h : x ≤ q + 22) (h2 : ¬ (q + 11 ≤ x ∧ x ≤ q + 20)) : x ≠ A := by omega
theorem ms9b {q p z A i k : Nat} (a1 : p + 15 < q + 11 ∨ q + 11 + 9 < p) (a4 : p + 16 ≤ z) (a5 : A = q + 11 + k ∨ z ≤ A) (hk : k ≤ 9) (hi : i ≤ 15) : p + i ≠ A := by omega
theorem ms9c {q p i : Nat} (a1 : p + 15 < q + 11 ∨ q + 11 + 9 < p) (hi : i ≤ 15) : ¬ (q + 11 ≤ p + i ∧ p + i ≤ q + 20) := by omega
theorem ms9d {q O : Nat} (a : O < q ∨ q + 22 < O) : ¬ (q + 11 ≤ O ∧ O ≤ q + 20) := by omega
theorem nab9 {x A A' Z : Nat} (o : A' = A ∨ Z ≤ A') (h : x ≠ A) (hz : x < Z) : x ≠ A' := by
  rcases o with o | o
  · rw [o]; exact h
  · omega
theorem TP.mst (h : TP M z q w T A B D N C n p O P K Ab Be Cm) (hf : FA (mcS (q + 11) Ab Be) (fun x => x = q + 11) M M') : (∀ i, i ≤ 10 → sm4 M M' (q + i)) ∧ sm4 M M' (q + 21) ∧ sm4 M M' (q + 22) ∧ (∀ i, i ≤ 15 → sm4 M M' (p + i)) ∧ sm4 M M' O ∧ sm4 M M' P ∧ (∀ x, (x = w ∨ x = T ∨ x = A ∨ x = B ∨ x = D) → sm4 M M' x) := by
  have st := h.st hf
  obtain ⟨⟨aA1, aA2, aA3, aA4, aA5, aA6⟩, aO, aP, aO2, aP2, aOP⟩ := h.apart
  have zz : z ≤ mZ M := h.2.2.2.1.2.2.2.2.2.2.1.1
  obtain ⟨pz0, pz1, pz2⟩ := h.1.2.2.2.2.1.2.2.2.2.1
  obtain ⟨s1, s2, s3⟩ := h.2.2.2.2.2.1
  clear h hf
  refine ⟨fun i hi => st _ (by omega) (by omega) (ms9a aA5 (by decide) s1 (by omega) (by omega)) (ms9a aA6 (by decide) s1 (by omega) (by omega)), st _ (by omega) (by omega) (ms9a aA5 (by decide) s1 (by omega) (by omega)) (ms9a aA6 (by decide) s1 (by omega) (by omega)), st _ (by omega) (by omega) (ms9a aA5 (by decide) s1 (by omega) (by omega)) (ms9a aA6 (by decide) s1 (by omega) (by omega)), fun i hi => st _ (by omega) (ms9c aA1 hi) (ms9b aA1 aA4 aA5 (by decide) hi) (ms9b aA1 aA4 aA6 (by decide) hi), st O pz1 (ms9d aO) aA2.1 aA2.2.1, st P pz2 (ms9d aP) aA2.2.2.1 aA2.2.2.2, fun x hx => ?_⟩
  obtain ⟨u1, u2, u3, u4⟩ := s3 x hx
  exact st x u4 (fun v => u1 ⟨Nat.le_trans (Nat.le_add_right _ _) v.1, Nat.le_trans v.2 (by omega)⟩) u2 u3
theorem TP.ma {Ab' Be' Cm' : Nat} (h : TP M z q w T A B D N C n p O P K Ab Be Cm) (ok : mOk M') (hk : MK M' z (q + 11) (q + 12) Ab' Be' Cm') (hf : FA (mcS (q + 11) Ab Be) (fun x => x = q + 11) M M') (hab : (Ab' = Ab ∨ mZ M ≤ Ab') ∧ (Be' = Be ∨ mZ M ≤ Be')) (h0 : mR M' (q + 11) 0 = mR M (q + 11) 0) : TP M' z q w T A B D N C n p O P K Ab' Be' Cm' := by
  obtain ⟨m1, m2, m3, m4, m5, m6, m7⟩ := h.mst hf
  have np : ¬ p = q + 11 := by have := h.apart.1.1; omega
  obtain ⟨⟨b1, b2, b3, b4, b5, b6, b7⟩, t1, t2, t3, t4, ⟨s1, s2, s3⟩, s4⟩ := h
  obtain ⟨pz0, pz1, pz2⟩ := b5.2.2.2.2.1
  have s0 := m1 0 (by omega)
  have r0 := m1 1 (by omega)
  rw [Nat.add_zero] at s0
  have zz := hf.1.1
  refine ⟨⟨ok, b2.eq (fun i hi => by rw [show q + 1 + i = q + (1 + i) by omega]; exact m1 _ (by omega)), by rw [r0.2.2.1]; exact b3, b4.eq m7, b5.fa hf np, b6, b7⟩, by rw [s0.1, s0.2.2.1]; exact t1, by rw [m2.1, m3.1, m2.2.1, m3.2.1]; exact t2, hk, by rw [h0]; exact t4, ⟨s1, s2, fun x hx => ?_⟩, ?_⟩
  · obtain ⟨u1, u2, u3, u4⟩ := s3 x hx
    exact ⟨u1, nab9 hab.1 u2 u4, nab9 hab.2 u3 u4, Nat.lt_of_lt_of_le u4 zz⟩
  · exact ⟨nab9 hab.1 s4.1 pz1, nab9 hab.2 s4.2.1 pz1, nab9 hab.1 s4.2.2.1 pz2, nab9 hab.2 s4.2.2.2 pz2⟩
theorem TX.ma {t cc : Nat} (h : TX M z q w T A B D N C n p O P K Ab Be Cm V F ns sf ef c cnt L) (hM : MS M z (q + 11) (q + 12) Ab Be Cm M' t cc) : ∃ Ab' Be' Cm', TX M' z q w T A B D N C n p O P K Ab' Be' Cm' V F ns sf ef c cnt L ∧ maF M q Ab Be Cm M' Ab' Be' Cm' ∧ (∀ j, j < t → 1 ≤ mI M' Be' j ∧ mI M' Be' j < 1000000000) ∧ (mI M' q = mI M q ∧ mI M' (q + 1) = mI M (q + 1) ∧ mI M' (q + 21) = mI M (q + 21) ∧ mI M' (q + 22) = mI M (q + 22) ∧ mI M' p = mI M p ∧ mI M' O = mI M O ∧ mI M' P = mI M P ∧ mI M' A = mI M A) := by
  obtain ⟨Ab', Be', Cm', ok, hk, hf, hab, hr, ⟨h8, htC, hb⟩, h15, hm⟩ := hM
  obtain ⟨hP, hC, hX⟩ := h
  obtain ⟨m1, m2, m3, m4, m5, m6, m7⟩ := hP.mst hf
  have s0 := m1 0 (by omega)
  have r0 := m1 1 (by omega)
  rw [Nat.add_zero] at s0
  have p0 := m4 0 (by omega)
  rw [Nat.add_zero] at p0
  have eE : txE M q p O P L M' := ⟨fun i _ _ _ _ _ _ _ _ => by rw [r0.2.2.2], fun y => by rw [r0.2.2.2]; exact y, fun i i6 i9 => by rw [show q + 1 + i = q + (1 + i) by omega]; exact (m1 (1 + i) (by omega)).2.2.2, fun i _ => by rw [p0.2.2.2], fun i _ i15 => (m4 i i15).2.2.2, fun i _ => ⟨by rw [m5.2.2.2], by rw [m6.2.2.2]⟩⟩
  have mA := (m7 A (Or.inr (Or.inr (Or.inl rfl)))).2.2.2
  exact ⟨Ab', Be', Cm', ⟨hP.ma ok hk hf hab hm.2.2, hC.tx mA eE (fun j => by rw [(m1 6 (by omega)).2.2.2]; exact hC.2.2.2 j), hX.tx eE⟩, ⟨hf, hab, hr⟩, hb, s0.2.2.2, r0.2.2.2, m2.2.2.2, m3.2.2.2, p0.2.2.2, m5.2.2.2, m6.2.2.2, mA⟩
/-- what working out a rule comes to -/
def wuQ (M : mM) (z q w T A B D N C n p O P K Ab Be Cm V F : Nat) (ns : Nat → Int) (sf ef : Nat → Nat) (c cnt L : Nat) (x : Int) (M' : mM) : Prop := ∃ Ab' Be' Cm', TX M' z q w T A B D N C n p O P K Ab' Be' Cm' V F ns sf ef c cnt L ∧ FA (fun x => x = q + 1 ∨ mcS (q + 11) Ab Be x) (fun x => x = q + 11) M M' ∧ ((Ab' = Ab ∨ mZ M ≤ Ab') ∧ (Be' = Be ∨ mZ M ≤ Be')) ∧ (mS M' + 4 * Cm = mS M + 4 * Cm' ∧ 32 * mZ M' + Cm ≤ 32 * mZ M + Cm') ∧ (mI M' q = mI M q ∧ (∀ i, i ≠ 3 → i ≠ 4 → mI M' (q + 1) i = mI M (q + 1) i) ∧ mI M' (q + 21) = mI M (q + 21) ∧ mI M' p = mI M p ∧ mI M' O = mI M O ∧ mI M' P = mI M P ∧ mI M' A = mI M A) ∧ ((x = 0) ∨ (x = 1 ∧ mI M' (q + 1) 3 = 0 ∧ 1 ≤ mI M' Be' 0 ∧ mI M' Be' 0 < 1000000000))
end TRG
end
section
/-! The class's reader of texts: a name is settled. -/
section TRH
variable {G : mG} {d z q w T A B D N C n p O P K Ab Be Cm V F c s s' L L' cnt Bn a d0 V1 F1 nw k e s9 Ab0 Be0 Cm0 Ab1 Be1 Cm1 : Nat} {M0 M M' M1 M2 : mM} {ns ns' ns1 : Nat → Int} {sf ef sf' ef' : Nat → Nat} {H : Nat → Nat} {S R : Nat → Prop}
/-- what reading a text may change, with the room that it takes -/
def trS (q p O P Ab Be : Nat) : Nat → Prop := fun x => txS q p O P x ∨ mcS (q + 11) Ab Be x
def trF (M0 : mM) (q p O P Ab0 Be0 Cm0 : Nat) (M : mM) (Ab Be Cm : Nat) : Prop := FA (trS q p O P Ab0 Be0) (fun x => x = q + 11) M0 M ∧ ((Ab = Ab0 ∨ mZ M0 ≤ Ab) ∧ (Be = Be0 ∨ mZ M0 ≤ Be)) ∧ (mS M + 4 * Cm0 = mS M0 + 4 * Cm ∧ 32 * mZ M + Cm0 ≤ 32 * mZ M0 + Cm)
theorem trF.refl : trF M q p O P Ab Be Cm M Ab Be Cm := ⟨FA.refl, ⟨Or.inl rfl, Or.inl rfl⟩, rfl, Nat.le_refl _⟩
theorem trF.trans (f : trF M0 q p O P Ab0 Be0 Cm0 M Ab Be Cm) (g : trF M q p O P Ab Be Cm M1 Ab1 Be1 Cm1) : trF M0 q p O P Ab0 Be0 Cm0 M1 Ab1 Be1 Cm1 := by
  obtain ⟨f1, ⟨f2, f3⟩, f4, f5⟩ := f
  obtain ⟨g1, ⟨g2, g3⟩, g4, g5⟩ := g
  have zz := f1.1.1
  refine ⟨f1.trans2 g1 (fun x hx y => ?_) (fun _ _ y => y), ⟨by omega, by omega⟩, by omega, by omega⟩
  rcases y with y | y
  · exact Or.inl y
  · refine Or.inr ?_
    have y' : x = q + 11 ∨ x = q + 11 + 2 ∨ (q + 11 + 5 ≤ x ∧ x ≤ q + 11 + 9) ∨ x = Ab ∨ x = Be := y
    show x = q + 11 ∨ x = q + 11 + 2 ∨ (q + 11 + 5 ≤ x ∧ x ≤ q + 11 + 9) ∨ x = Ab0 ∨ x = Be0
    omega
theorem trF.fi (f : FI (txS q p O P) M M1) : trF M q p O P Ab Be Cm M1 Ab Be Cm := ⟨(FI.fa f).mono (fun _ _ y => Or.inl y) (fun _ _ y => y), ⟨Or.inl rfl, Or.inl rfl⟩, by rw [f.2.2.2.2.2.1], by rw [f.2.2.2.2.1]; omega⟩
/-- an item has been read and settled -/
def itE (M0 : mM) (z q w T A B D N C n p O P K Ab0 Be0 Cm0 : Nat) (M' : mM) : Prop := ∃ (Ab Be Cm V F : Nat) (ns : Nat → Int) (sf ef : Nat → Nat) (c cnt L a : Nat), TX M' z q w T A B D N C n p O P K Ab Be Cm V F ns sf ef c cnt L ∧ mI M' p 2 = ((L : Nat) : Int) ∧ mI M' (q + 1) 2 = ((a : Nat) : Int) ∧ a ≤ n ∧ L ≤ a ∧ mI M' (q + 1) 5 = 0 ∧ trF M0 q p O P Ab0 Be0 Cm0 M' Ab Be Cm
def un (ns : Nat → Int) (F : Nat) (l : Int) : Nat → Int := fun x => if x = F then l else ns x
def uf (sf : Nat → Nat) (F v : Nat) : Nat → Nat := fun x => if x = F then v else sf x
theorem PX.cg (h : PX M q p O P V F ns sf ef L cnt) (f3 : mI M (q + 1) 3 ≠ 0 → mI M' (q + 1) 3 ≠ 0) (f5 : ∀ i, i ≠ 2 → mI M' p i = mI M p i) (f6 : ∀ i, 3 ≤ i → i ≤ 15 → mI M' (p + i) = mI M (p + i)) (f7 : ∀ i, i < L → mI M' O i = mI M O i ∧ mI M' P i = mI M P i) : PX M' q p O P V F ns sf ef L cnt := by
  obtain ⟨a1, a2⟩ := h
  refine ⟨by rw [f5 12 (by decide)]; exact a1, fun h0 => ?_⟩
  obtain ⟨u, e, g1, g2, g3, g4, g5, g6, g7⟩ := a2 (Classical.byContradiction (fun y => f3 y h0))
  have cg : ∀ {s h : Nat}, PC M O P V F ns ef L s h → PC M' O P V F ns ef L s h := fun hc => hc.cg (fun i hi => (f7 i hi).1) (fun i hi => (f7 i hi).2)
  refine ⟨u, by rw [f6 12 (by omega) (by omega)]; exact e, g1.cg (fun i hi => (f7 i hi).1) (fun i hi => (f7 i hi).2) (fun i _ => by rw [f6 7 (by omega) (by omega)]) (fun i _ => by rw [f6 8 (by omega) (by omega)]), ?_, fun j hj => ?_, by rw [f6 12 (by omega) (by omega)]; exact g4, by rw [f6 12 (by omega) (by omega)]; exact g5, by rw [f6 12 (by omega) (by omega)]; exact g6, fun b hb => ?_⟩
  · rw [f5 11 (by decide)]
    exact g2.imp (fun y => y) (fun ⟨s, y1, y2⟩ => ⟨s, y1, cg y2⟩)
  · obtain ⟨s, y1, y2⟩ := g3 j hj
    exact ⟨s, by rw [f6 11 (by omega) (by omega)]; exact y1, cg y2⟩
  · obtain ⟨s1, s2, y1, y2, y3, y4⟩ := g7 b hb
    exact ⟨s1, s2, by rw [f6 14 (by omega) (by omega)]; exact y1, cg y2, by rw [f6 15 (by omega) (by omega)]; exact y3, cg y4⟩
/-- one name more: a const with its value, or a formula with its code -/
theorem PG.name {l1 : Int} (h : PG M p O P V F ns sf ef L cnt Bn) (hLL : L ≤ L') (f7 : ∀ i, i < L → mI M' O i = mI M O i ∧ mI M' P i = mI M P i) (h11 : mI M' p 11 = mI M p 11) (f6 : ∀ i, 9 ≤ i → i ≤ 15 → mI M' (p + i) = mI M (p + i)) (h7 : ∀ i, i < F → mI M' (p + 7) i = mI M (p + 7) i) (h8 : ∀ i, i < F → mI M' (p + 8) i = mI M (p + 8) i) (new : (l1 = 4 ∧ 1 ≤ mI M' (p + 7) F ∧ mI M' (p + 7) F < 1000000000) ∨ (l1 = 7 ∧ mI M' (p + 8) F = ((L : Nat) : Int) ∧ Cod M' O P V F ns L e H 1 ∧ e < L')) : PG M' p O P V (F + 1) (un ns F l1) (uf sf F L) (uf ef F e) L' cnt Bn := by
  obtain ⟨g1, g2, g3, g4, g5, g6, g7⟩ := h
  have un0 : ∀ x, x < F → un ns F l1 x = ns x := fun x hx => by unfold un; rw [if_neg (by omega)]
  have ue0 : ∀ x, x < F → uf ef F e x = ef x := fun x hx => by unfold uf; rw [if_neg (by omega)]
  have us0 : ∀ x, x < F → uf sf F L x = sf x := fun x hx => by unfold uf; rw [if_neg (by omega)]
  have unF : un ns F l1 F = l1 := by unfold un; rw [if_pos rfl]
  have ueF : uf ef F e F = e := by unfold uf; rw [if_pos rfl]
  have usF : uf sf F L F = L := by unfold uf; rw [if_pos rfl]
  have cg : ∀ {s h : Nat}, PC M O P V F ns ef L s h → PC M' O P V (F + 1) (un ns F l1) (uf ef F e) L' s h := fun hc => (hc.cg (M' := M') (fun i hi => (f7 i hi).1) (fun i hi => (f7 i hi).2)).wide (Nat.le_refl _) (Nat.le_succ _) hLL (fun x hx => ⟨un0 x hx, ue0 x hx⟩)
  refine ⟨fun x hx => ?_, ?_, fun j hj => ?_, by rw [f6 12 (by omega) (by omega)]; exact g4, by rw [f6 12 (by omega) (by omega)]; exact g5, by rw [f6 12 (by omega) (by omega)]; exact g6, fun b hb => ?_⟩
  · by_cases y : x = F
    · subst y
      rw [unF, usF, ueF]
      rcases new with ⟨u1, u2, u3⟩ | ⟨u1, u2, u3, u4⟩
      · exact ⟨fun _ => ⟨u2, u3⟩, fun v => absurd (u1.symm.trans v) (by decide)⟩
      · refine ⟨fun v => absurd (u1.symm.trans v) (by decide), fun _ => ⟨u2, ⟨H, u3.wide (Nat.le_refl _) (Nat.le_refl _) (fun y hy => un0 y hy)⟩, u4, fun y hy v => ?_⟩⟩
        rw [ue0 y hy]
        rw [un0 y hy] at v
        exact ((g1 y hy).2 v).2.2.1
    · have hxF : x < F := by omega
      obtain ⟨a1, a2⟩ := g1 x hxF
      rw [un0 x hxF, us0 x hxF, ue0 x hxF, h7 x hxF, h8 x hxF]
      refine ⟨a1, fun v => ?_⟩
      obtain ⟨b1, ⟨Hx, b2⟩, b3, b4⟩ := a2 v
      refine ⟨b1, ⟨Hx, (b2.cg (M' := M') (fun i hi => (f7 i (by omega)).1) (fun i hi => (f7 i (by omega)).2)).wide (Nat.le_refl _) (Nat.le_refl _) (fun y hy => un0 y (by omega))⟩, by omega, fun y hy v => ?_⟩
      rw [ue0 y (by omega)]
      rw [un0 y (by omega)] at v
      exact b4 y hy v
  · rw [h11]
    exact g2.imp (fun y => y) (fun ⟨s, y1, y2⟩ => ⟨s, y1, cg y2⟩)
  · obtain ⟨s, y1, y2⟩ := g3 j hj
    exact ⟨s, by rw [f6 11 (by omega) (by omega)]; exact y1, cg y2⟩
  · obtain ⟨s1, s2, y1, y2, y3, y4⟩ := g7 b hb
    exact ⟨s1, s2, by rw [f6 14 (by omega) (by omega)]; exact y1, cg y2, by rw [f6 15 (by omega) (by omega)]; exact y3, cg y4⟩
theorem tx_name {l1 : Int} (h : TX M z q w T A B D N C n p O P K Ab Be Cm V F ns sf ef c cnt L) (h0 : mI M (q + 1) 3 = 0) (h60 : F < 60) (ok : mOk M') (f : FI (txS q p O P) M M') (hr : ∀ i, i ≤ 9 → mI M' (q + 1 + i) = mI M (q + 1 + i)) (ep : ∀ i, i ≠ 2 → i ≠ 7 → mI M' p i = mI M p i) (e7 : mI M' p 7 = ((F + 1 : Nat) : Int)) (f6 : ∀ i, 9 ≤ i → i ≤ 15 → mI M' (p + i) = mI M (p + i)) (h7 : ∀ i, i < F → mI M' (p + 7) i = mI M (p + 7) i) (h8 : ∀ i, i < F → mI M' (p + 8) i = mI M (p + 8) i) (f7 : ∀ i, i < L → mI M' O i = mI M O i ∧ mI M' P i = mI M P i) (hLL : L ≤ L') (new : (l1 = 4 ∧ 1 ≤ mI M' (p + 7) F ∧ mI M' (p + 7) F < 1000000000) ∨ (l1 = 7 ∧ mI M' (p + 8) F = ((L : Nat) : Int) ∧ Cod M' O P V F ns L e H 1 ∧ e < L')) : TX M' z q w T A B D N C n p O P K Ab Be Cm V (F + 1) (un ns F l1) (uf sf F L) (uf ef F e) c cnt L' := by
  obtain ⟨hP, ⟨c1, c2, c3, c4⟩, x1, x2⟩ := h
  have hA := (hP.words f).1
  have r0 := hr 0 (by omega)
  rw [Nat.add_zero] at r0
  refine ⟨hP.fi ok f, ⟨by rw [ep 3 (by decide) (by decide)]; exact c1, ⟨e7, by omega⟩, ?_, fun j => by rw [show q + 6 = q + 1 + 5 by omega, hr 5 (by omega)]; exact c4 j⟩, by rw [ep 12 (by decide) (by decide)]; exact x1, fun _ => ?_⟩
  · obtain ⟨n1, n2, n3⟩ := c3
    refine ⟨by rw [r0]; exact n1, n2, fun i hi => ?_⟩
    obtain ⟨m1, m2, m3⟩ := n3 i hi
    rw [hA, hr 6 (by omega), hr 7 (by omega), hr 8 (by omega), hr 9 (by omega)]
    refine ⟨m1, ?_, m3⟩
    rcases m2 with u | ⟨u1, u2, u3, u4⟩
    · exact Or.inl u
    · refine Or.inr ⟨u1, u2, by omega, ?_⟩
      unfold un
      rw [if_neg (by omega)]
      exact u4
  · obtain ⟨u, eu, gu⟩ := x2 h0
    exact ⟨u, by rw [f6 12 (by omega) (by omega)]; exact eu, gu.name hLL f7 (ep 11 (by decide) (by decide)) f6 h7 h8 new⟩
/-- where a fault is noted, the tables don't matter -/
theorem TX.any (h : TX M z q w T A B D N C n p O P K Ab Be Cm V F ns sf ef c cnt L) (hL : mI M (q + 1) 3 = 0 → L ≤ L') : TX M z q w T A B D N C n p O P K Ab Be Cm V F ns sf ef c cnt L' := by
  obtain ⟨hP, hC, x1, x2⟩ := h
  refine ⟨hP, hC, x1, fun h0 => ?_⟩
  obtain ⟨u, eu, gu⟩ := x2 h0
  exact ⟨u, eu, gu.longer (hL h0)⟩
end TRH
end
