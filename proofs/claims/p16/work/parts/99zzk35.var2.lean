section
section
/-! The class's reader of texts: var, the whole. -/
section TRF
variable {G : mG} {d z q w T A B D N C n p O P K Ab Be Cm V F c s s' L L' cnt Bn a d0 V1 F1 nw k : Nat} {M0 M M' M1 M2 : mM} {ns ns' ns1 : Nat → Int} {sf ef sf' ef' : Nat → Nat} {H : Nat → Nat} {S R : Nat → Prop}
end TRF
end
section
/-! The class's reader of texts: worksOut. -/
section TRG
variable {G : mG} {d z q w T A B D N C n p O P K Ab Be Cm V F c s s' L L' cnt Bn a d0 V1 F1 nw k e s9 : Nat} {M0 M M' M1 M2 : mM} {ns ns' ns1 : Nat → Int} {sf ef sf' ef' : Nat → Nat} {H : Nat → Nat} {S R : Nat → Prop}
/-- a run of the machine: what stays -/
def maF (M : mM) (q Ab Be Cm : Nat) (M' : mM) (Ab' Be' Cm' : Nat) : Prop := FA (mcS (q + 11) Ab Be) (fun x => x = q + 11) M M' ∧ ((Ab' = Ab ∨ mZ M ≤ Ab') ∧ (Be' = Be ∨ mZ M ≤ Be')) ∧ (mS M' + 4 * Cm = mS M + 4 * Cm' ∧ 32 * mZ M' + Cm ≤ 32 * mZ M + Cm')
def sm4 (M M' : mM) (x : Nat) : Prop := mK M' x = mK M x ∧ mN M' x = mN M x ∧ mR M' x = mR M x ∧ mI M' x = mI M x
theorem RK.eq {r : Nat} (h : RK M r) (v : ∀ i, i ≤ 9 → sm4 M M' (r + i)) : RK M' r := by
  unfold RK at h ⊢
  have v0 := v 0 (by omega)
  rw [Nat.add_zero] at v0
  rw [v0.1, v0.2.2.1, (v 1 (by omega)).1, (v 2 (by omega)).1, (v 3 (by omega)).1, (v 4 (by omega)).1, (v 5 (by omega)).1, (v 6 (by omega)).1, (v 7 (by omega)).1, (v 8 (by omega)).1, (v 9 (by omega)).1, (v 1 (by omega)).2.1, (v 2 (by omega)).2.1, (v 3 (by omega)).2.1, (v 4 (by omega)).2.1, (v 5 (by omega)).2.1, (v 6 (by omega)).2.1, (v 7 (by omega)).2.1, (v 8 (by omega)).2.1, (v 9 (by omega)).2.1]
  exact h
theorem Wf.eq (h : Wf M w T A B D N C n) (sw : ∀ x, (x = w ∨ x = T ∨ x = A ∨ x = B ∨ x = D) → sm4 M M' x) : Wf M' w T A B D N C n := by
  unfold Wf WA at h ⊢
  obtain ⟨w1, w2, w3, w4⟩ := sw w (Or.inl rfl)
  obtain ⟨x1, x2, x3, x4⟩ := sw T (Or.inr (Or.inl rfl))
  obtain ⟨y1, y2, y3, y4⟩ := sw A (Or.inr (Or.inr (Or.inl rfl)))
  obtain ⟨z1, z2, z3, z4⟩ := sw B (Or.inr (Or.inr (Or.inr (Or.inl rfl))))
  obtain ⟨v1, v2, v3, v4⟩ := sw D (Or.inr (Or.inr (Or.inr (Or.inr rfl))))
  rw [w1, w3, w4, x1, x2, y1, y2, y4, z1, z2, z4, v1, v2, v4]
  exact h
theorem TP.st (h : TP M z q w T A B D N C n p O P K Ab Be Cm) (hf : FA (mcS (q + 11) Ab Be) (fun x => x = q + 11) M M') : ∀ x, x < mZ M → ¬ (q + 11 ≤ x ∧ x ≤ q + 20) → x ≠ Ab → x ≠ Be → sm4 M M' x := fun x hx h1 h2 h3 => by
  obtain ⟨u1, u2, u3, u4, u5⟩ := hf.2 x hx
  refine ⟨u1, u2, u4 (show ¬ x = q + 11 by omega), u5 (fun y => ?_)⟩
  have y' : x = q + 11 ∨ x = q + 11 + 2 ∨ (q + 11 + 5 ≤ x ∧ x ≤ q + 11 + 9) ∨ x = Ab ∨ x = Be := y
  omega
theorem ms9a {q z A x k : Nat} (a5 : A = q + 11 + k ∨ z ≤ A) (hk : k ≤ 9) (hz : q + 23 ≤ z) (h : x ≤ q + 22) (h2 : ¬ (q + 11 ≤ x ∧ x ≤ q + 20)) : x ≠ A := by omega
theorem ms9b {q p z A i k : Nat} (a1 : p + 15 < q + 11 ∨ q + 11 + 9 < p) (a4 : p + 16 ≤ z) (a5 : A = q + 11 + k ∨ z ≤ A) (hk : k ≤ 9) (hi : i ≤ 15) : p + i ≠ A := by omega
theorem ms9c {q p i : Nat} (a1 : p + 15 < q + 11 ∨ q + 11 + 9 < p) (hi : i ≤ 15) : ¬ (q + 11 ≤ p + i ∧ p + i ≤ q + 20) := by omega
theorem ms9d {q O : Nat} (a : O < q ∨ q + 22 < O) : ¬ (q + 11 ≤ O ∧ O ≤ q + 20) := by omega
theorem nab9 {x A A' Z : Nat} (o : A' = A ∨ Z ≤ A') (h : x ≠ A) (hz : x < Z) : x ≠ A' := by
  rcases o with o | o
  · rw [o]; exact h
  · omega
theorem TP.mst (h : TP M z q w T A B D N C n p O P K Ab Be Cm) (hf : FA (mcS (q + 11) Ab Be) (fun x => x = q + 11) M M') : (∀ i, i ≤ 10 → sm4 M M' (q + i)) ∧ sm4 M M' (q + 21) ∧ sm4 M M' (q + 22) ∧ (∀ i, i ≤ 15 → sm4 M M' (p + i)) ∧ sm4 M M' O ∧ sm4 M M' P ∧ (∀ x, (x = w ∨ x = T ∨ x = A ∨ x = B ∨ x = D) → sm4 M M' x) := by
  have st := h.st hf
  obtain ⟨⟨aA1, aA2, aA3, aA4, aA5, aA6⟩, aO, aP, aO2, aP2, aOP⟩ := h.apart
  have zz : z ≤ mZ M := h.2.2.2.1.2.2.2.2.2.2.1.1
  obtain ⟨pz0, pz1, pz2⟩ := h.1.2.2.2.2.1.2.2.2.2.1
  obtain ⟨s1, s2, s3⟩ := h.2.2.2.2.2.1
  clear h hf
  refine ⟨fun i hi => st _ (by omega) (by omega) (ms9a aA5 (by decide) s1 (by omega) (by omega)) (ms9a aA6 (by decide) s1 (by omega) (by omega)), st _ (by omega) (by omega) (ms9a aA5 (by decide) s1 (by omega) (by omega)) (ms9a aA6 (by decide) s1 (by omega) (by omega)), st _ (by omega) (by omega) (ms9a aA5 (by decide) s1 (by omega) (by omega)) (ms9a aA6 (by decide) s1 (by omega) (by omega)), fun i hi => st _ (by omega) (ms9c aA1 hi) (ms9b aA1 aA4 aA5 (by decide) hi) (ms9b aA1 aA4 aA6 (by decide) hi), st O pz1 (ms9d aO) aA2.1 aA2.2.1, st P pz2 (ms9d aP) aA2.2.2.1 aA2.2.2.2, fun x hx => ?_⟩
  obtain ⟨u1, u2, u3, u4⟩ := s3 x hx
  exact st x u4 (fun v => u1 ⟨Nat.le_trans (Nat.le_add_right _ _) v.1, Nat.le_trans v.2 (by omega)⟩) u2 u3
theorem TP.ma {Ab' Be' Cm' : Nat} (h : TP M z q w T A B D N C n p O P K Ab Be Cm) (ok : mOk M') (hk : MK M' z (q + 11) (q + 12) Ab' Be' Cm') (hf : FA (mcS (q + 11) Ab Be) (fun x => x = q + 11) M M') (hab : (Ab' = Ab ∨ mZ M ≤ Ab') ∧ (Be' = Be ∨ mZ M ≤ Be')) (h0 : mR M' (q + 11) 0 = mR M (q + 11) 0) : TP M' z q w T A B D N C n p O P K Ab' Be' Cm' := by
  obtain ⟨m1, m2, m3, m4, m5, m6, m7⟩ := h.mst hf
  have np : ¬ p = q + 11 := by have := h.apart.1.1; omega
  obtain ⟨⟨b1, b2, b3, b4, b5, b6, b7⟩, t1, t2, t3, t4, ⟨s1, s2, s3⟩, s4⟩ := h
  obtain ⟨pz0, pz1, pz2⟩ := b5.2.2.2.2.1
  have s0 := m1 0 (by omega)
  have r0 := m1 1 (by omega)
  rw [Nat.add_zero] at s0
  have zz := hf.1.1
  refine ⟨⟨ok, b2.eq (fun i hi => by rw [show q + 1 + i = q + (1 + i) by omega]; exact m1 _ (by omega)), by rw [r0.2.2.1]; exact b3, b4.eq m7, b5.fa hf np, b6, b7⟩, by rw [s0.1, s0.2.2.1]; exact t1, by rw [m2.1, m3.1, m2.2.1, m3.2.1]; exact t2, hk, by rw [h0]; exact t4, ⟨s1, s2, fun x hx => ?_⟩, ?_⟩
  · obtain ⟨u1, u2, u3, u4⟩ := s3 x hx
    exact ⟨u1, nab9 hab.1 u2 u4, nab9 hab.2 u3 u4, Nat.lt_of_lt_of_le u4 zz⟩
  · exact ⟨nab9 hab.1 s4.1 pz1, nab9 hab.2 s4.2.1 pz1, nab9 hab.1 s4.2.2.1 pz2, nab9 hab.2 s4.2.2.2 pz2⟩
theorem TX.ma {t cc : Nat} (h : TX M z q w T A B D N C n p O P K Ab Be Cm V F ns sf ef c cnt L) (hM : MS M z (q + 11) (q + 12) Ab Be Cm M' t cc) : ∃ Ab' Be' Cm', TX M' z q w T A B D N C n p O P K Ab' Be' Cm' V F ns sf ef c cnt L ∧ maF M q Ab Be Cm M' Ab' Be' Cm' ∧ (∀ j, j < t → 1 ≤ mI M' Be' j ∧ mI M' Be' j < 1000000000) ∧ (mI M' q = mI M q ∧ mI M' (q + 1) = mI M (q + 1) ∧ mI M' (q + 21) = mI M (q + 21) ∧ mI M' (q + 22) = mI M (q + 22) ∧ mI M' p = mI M p ∧ mI M' O = mI M O ∧ mI M' P = mI M P ∧ mI M' A = mI M A) := by
  obtain ⟨Ab', Be', Cm', ok, hk, hf, hab, hr, ⟨h8, htC, hb⟩, h15, hm⟩ := hM
  obtain ⟨hP, hC, hX⟩ := h
  obtain ⟨m1, m2, m3, m4, m5, m6, m7⟩ := hP.mst hf
  have s0 := m1 0 (by omega)
  have r0 := m1 1 (by omega)
  rw [Nat.add_zero] at s0
  have p0 := m4 0 (by omega)
  rw [Nat.add_zero] at p0
  have eE : txE M q p O P L M' := ⟨fun i _ _ _ _ _ _ _ _ => by rw [r0.2.2.2], fun y => by rw [r0.2.2.2]; exact y, fun i i6 i9 => by rw [show q + 1 + i = q + (1 + i) by omega]; exact (m1 (1 + i) (by omega)).2.2.2, fun i _ => by rw [p0.2.2.2], fun i _ i15 => (m4 i i15).2.2.2, fun i _ => ⟨by rw [m5.2.2.2], by rw [m6.2.2.2]⟩⟩
  have mA := (m7 A (Or.inr (Or.inr (Or.inl rfl)))).2.2.2
  exact ⟨Ab', Be', Cm', ⟨hP.ma ok hk hf hab hm.2.2, hC.tx mA eE (fun j => by rw [(m1 6 (by omega)).2.2.2]; exact hC.2.2.2 j), hX.tx eE⟩, ⟨hf, hab, hr⟩, hb, s0.2.2.2, r0.2.2.2, m2.2.2.2, m3.2.2.2, p0.2.2.2, m5.2.2.2, m6.2.2.2, mA⟩
/-- what working out a rule comes to -/
def wuQ (M : mM) (z q w T A B D N C n p O P K Ab Be Cm V F : Nat) (ns : Nat → Int) (sf ef : Nat → Nat) (c cnt L : Nat) (x : Int) (M' : mM) : Prop := ∃ Ab' Be' Cm', TX M' z q w T A B D N C n p O P K Ab' Be' Cm' V F ns sf ef c cnt L ∧ FA (fun x => x = q + 1 ∨ mcS (q + 11) Ab Be x) (fun x => x = q + 11) M M' ∧ ((Ab' = Ab ∨ mZ M ≤ Ab') ∧ (Be' = Be ∨ mZ M ≤ Be')) ∧ (mS M' + 4 * Cm = mS M + 4 * Cm' ∧ 32 * mZ M' + Cm ≤ 32 * mZ M + Cm') ∧ (mI M' q = mI M q ∧ (∀ i, i ≠ 3 → i ≠ 4 → mI M' (q + 1) i = mI M (q + 1) i) ∧ mI M' (q + 21) = mI M (q + 21) ∧ mI M' p = mI M p ∧ mI M' O = mI M O ∧ mI M' P = mI M P ∧ mI M' A = mI M A) ∧ ((x = 0) ∨ (x = 1 ∧ mI M' (q + 1) 3 = 0 ∧ 1 ≤ mI M' Be' 0 ∧ mI M' Be' 0 < 1000000000))
end TRG
end
section
/-! The class's reader of texts: a name is settled. -/
section TRH
variable {G : mG} {d z q w T A B D N C n p O P K Ab Be Cm V F c s s' L L' cnt Bn a d0 V1 F1 nw k e s9 Ab0 Be0 Cm0 Ab1 Be1 Cm1 : Nat} {M0 M M' M1 M2 : mM} {ns ns' ns1 : Nat → Int} {sf ef sf' ef' : Nat → Nat} {H : Nat → Nat} {S R : Nat → Prop}
/-- what reading a text may change, with the room that it takes -/
def trS (q p O P Ab Be : Nat) : Nat → Prop := fun x => txS q p O P x ∨ mcS (q + 11) Ab Be x
def trF (M0 : mM) (q p O P Ab0 Be0 Cm0 : Nat) (M : mM) (Ab Be Cm : Nat) : Prop := FA (trS q p O P Ab0 Be0) (fun x => x = q + 11) M0 M ∧ ((Ab = Ab0 ∨ mZ M0 ≤ Ab) ∧ (Be = Be0 ∨ mZ M0 ≤ Be)) ∧ (mS M + 4 * Cm0 = mS M0 + 4 * Cm ∧ 32 * mZ M + Cm0 ≤ 32 * mZ M0 + Cm)
theorem trF.refl : trF M q p O P Ab Be Cm M Ab Be Cm := ⟨FA.refl, ⟨Or.inl rfl, Or.inl rfl⟩, rfl, Nat.le_refl _⟩
theorem trF.trans (f : trF M0 q p O P Ab0 Be0 Cm0 M Ab Be Cm) (g : trF M q p O P Ab Be Cm M1 Ab1 Be1 Cm1) : trF M0 q p O P Ab0 Be0 Cm0 M1 Ab1 Be1 Cm1 := by
  obtain ⟨f1, ⟨f2, f3⟩, f4, f5⟩ := f
  obtain ⟨g1, ⟨g2, g3⟩, g4, g5⟩ := g
  have zz := f1.1.1
  refine ⟨f1.trans2 g1 (fun x hx y => ?_) (fun _ _ y => y), ⟨by omega, by omega⟩, by omega, by omega⟩
  rcases y with y | y
  · exact Or.inl y
  · refine Or.inr ?_
    have y' : x = q + 11 ∨ x = q + 11 + 2 ∨ (q + 11 + 5 ≤ x ∧ x ≤ q + 11 + 9) ∨ x = Ab ∨ x = Be := y
    show x = q + 11 ∨ x = q + 11 + 2 ∨ (q + 11 + 5 ≤ x ∧ x ≤ q + 11 + 9) ∨ x = Ab0 ∨ x = Be0
    omega
theorem trF.fi (f : FI (txS q p O P) M M1) : trF M q p O P Ab Be Cm M1 Ab Be Cm := ⟨(FI.fa f).mono (fun _ _ y => Or.inl y) (fun _ _ y => y), ⟨Or.inl rfl, Or.inl rfl⟩, by rw [f.2.2.2.2.2.1], by rw [f.2.2.2.2.1]; omega⟩
/-- an item has been read and settled -/
def itE (M0 : mM) (z q w T A B D N C n p O P K Ab0 Be0 Cm0 : Nat) (M' : mM) : Prop := ∃ (Ab Be Cm V F : Nat) (ns : Nat → Int) (sf ef : Nat → Nat) (c cnt L a : Nat), TX M' z q w T A B D N C n p O P K Ab Be Cm V F ns sf ef c cnt L ∧ mI M' p 2 = ((L : Nat) : Int) ∧ mI M' (q + 1) 2 = ((a : Nat) : Int) ∧ a ≤ n ∧ L ≤ a ∧ mI M' (q + 1) 5 = 0 ∧ trF M0 q p O P Ab0 Be0 Cm0 M' Ab Be Cm
def un (ns : Nat → Int) (F : Nat) (l : Int) : Nat → Int := fun x => if x = F then l else ns x
def uf (sf : Nat → Nat) (F v : Nat) : Nat → Nat := fun x => if x = F then v else sf x
theorem PX.cg (h : PX M q p O P V F ns sf ef L cnt) (f3 : mI M (q + 1) 3 ≠ 0 → mI M' (q + 1) 3 ≠ 0) (f5 : ∀ i, i ≠ 2 → mI M' p i = mI M p i) (f6 : ∀ i, 3 ≤ i → i ≤ 15 → mI M' (p + i) = mI M (p + i)) (f7 : ∀ i, i < L → mI M' O i = mI M O i ∧ mI M' P i = mI M P i) : PX M' q p O P V F ns sf ef L cnt := by
  obtain ⟨a1, a2⟩ := h
  refine ⟨by rw [f5 12 (by decide)]; exact a1, fun h0 => ?_⟩
  obtain ⟨u, e, g1, g2, g3, g4, g5, g6, g7⟩ := a2 (Classical.byContradiction (fun y => f3 y h0))
  have cg : ∀ {s h : Nat}, PC M O P V F ns ef L s h → PC M' O P V F ns ef L s h := fun hc => hc.cg (fun i hi => (f7 i hi).1) (fun i hi => (f7 i hi).2)
  refine ⟨u, by rw [f6 12 (by omega) (by omega)]; exact e, g1.cg (fun i hi => (f7 i hi).1) (fun i hi => (f7 i hi).2) (fun i _ => by rw [f6 7 (by omega) (by omega)]) (fun i _ => by rw [f6 8 (by omega) (by omega)]), ?_, fun j hj => ?_, by rw [f6 12 (by omega) (by omega)]; exact g4, by rw [f6 12 (by omega) (by omega)]; exact g5, by rw [f6 12 (by omega) (by omega)]; exact g6, fun b hb => ?_⟩
  · rw [f5 11 (by decide)]
    exact g2.imp (fun y => y) (fun ⟨s, y1, y2⟩ => ⟨s, y1, cg y2⟩)
  · obtain ⟨s, y1, y2⟩ := g3 j hj
    exact ⟨s, by rw [f6 11 (by omega) (by omega)]; exact y1, cg y2⟩
  · obtain ⟨s1, s2, y1, y2, y3, y4⟩ := g7 b hb
    exact ⟨s1, s2, by rw [f6 14 (by omega) (by omega)]; exact y1, cg y2, by rw [f6 15 (by omega) (by omega)]; exact y3, cg y4⟩
/-- one name more: a const with its value, or a formula with its code -/
theorem PG.name {l1 : Int} (h : PG M p O P V F ns sf ef L cnt Bn) (hLL : L ≤ L') (f7 : ∀ i, i < L → mI M' O i = mI M O i ∧ mI M' P i = mI M P i) (h11 : mI M' p 11 = mI M p 11) (f6 : ∀ i, 9 ≤ i → i ≤ 15 → mI M' (p + i) = mI M (p + i)) (h7 : ∀ i, i < F → mI M' (p + 7) i = mI M (p + 7) i) (h8 : ∀ i, i < F → mI M' (p + 8) i = mI M (p + 8) i) (new : (l1 = 4 ∧ 1 ≤ mI M' (p + 7) F ∧ mI M' (p + 7) F < 1000000000) ∨ (l1 = 7 ∧ mI M' (p + 8) F = ((L : Nat) : Int) ∧ Cod M' O P V F ns L e H 1 ∧ e < L')) : PG M' p O P V (F + 1) (un ns F l1) (uf sf F L) (uf ef F e) L' cnt Bn := by
  obtain ⟨g1, g2, g3, g4, g5, g6, g7⟩ := h
  have un0 : ∀ x, x < F → un ns F l1 x = ns x := fun x hx => by unfold un; rw [if_neg (by omega)]
  have ue0 : ∀ x, x < F → uf ef F e x = ef x := fun x hx => by unfold uf; rw [if_neg (by omega)]
  have us0 : ∀ x, x < F → uf sf F L x = sf x := fun x hx => by unfold uf; rw [if_neg (by omega)]
  have unF : un ns F l1 F = l1 := by unfold un; rw [if_pos rfl]
  have ueF : uf ef F e F = e := by unfold uf; rw [if_pos rfl]
  have usF : uf sf F L F = L := by unfold uf; rw [if_pos rfl]
  have cg : ∀ {s h : Nat}, PC M O P V F ns ef L s h → PC M' O P V (F + 1) (un ns F l1) (uf ef F e) L' s h := fun hc => (hc.cg (M' := M') (fun i hi => (f7 i hi).1) (fun i hi => (f7 i hi).2)).wide (Nat.le_refl _) (Nat.le_succ _) hLL (fun x hx => ⟨un0 x hx, ue0 x hx⟩)
  refine ⟨fun x hx => ?_, ?_, fun j hj => ?_, by rw [f6 12 (by omega) (by omega)]; exact g4, by rw [f6 12 (by omega) (by omega)]; exact g5, by rw [f6 12 (by omega) (by omega)]; exact g6, fun b hb => ?_⟩
  · by_cases y : x = F
    · subst y
      rw [unF, usF, ueF]
      rcases new with ⟨u1, u2, u3⟩ | ⟨u1, u2, u3, u4⟩
      · exact ⟨fun _ => ⟨u2, u3⟩, fun v => absurd (u1.symm.trans v) (by decide)⟩
      · refine ⟨fun v => absurd (u1.symm.trans v) (by decide), fun _ => ⟨u2, ⟨H, u3.wide (Nat.le_refl _) (Nat.le_refl _) (fun y hy => un0 y hy)⟩, u4, fun y hy v => ?_⟩⟩
        rw [ue0 y hy]
        rw [un0 y hy] at v
        exact ((g1 y hy).2 v).2.2.1
    · have hxF : x < F := by omega
      obtain ⟨a1, a2⟩ := g1 x hxF
      rw [un0 x hxF, us0 x hxF, ue0 x hxF, h7 x hxF, h8 x hxF]
      refine ⟨a1, fun v => ?_⟩
      obtain ⟨b1, ⟨Hx, b2⟩, b3, b4⟩ := a2 v
      refine ⟨b1, ⟨Hx, (b2.cg (M' := M') (fun i hi => (f7 i (by omega)).1) (fun i hi => (f7 i (by omega)).2)).wide (Nat.le_refl _) (Nat.le_refl _) (fun y hy => un0 y (by omega))⟩, by omega, fun y hy v => ?_⟩
      rw [ue0 y (by omega)]
      rw [un0 y (by omega)] at v
      exact b4 y hy v
  · rw [h11]
    exact g2.imp (fun y => y) (fun ⟨s, y1, y2⟩ => ⟨s, y1, cg y2⟩)
  · obtain ⟨s, y1, y2⟩ := g3 j hj
    exact ⟨s, by rw [f6 11 (by omega) (by omega)]; exact y1, cg y2⟩
  · obtain ⟨s1, s2, y1, y2, y3, y4⟩ := g7 b hb
    exact ⟨s1, s2, by rw [f6 14 (by omega) (by omega)]; exact y1, cg y2, by rw [f6 15 (by omega) (by omega)]; exact y3, cg y4⟩
theorem tx_name {l1 : Int} (h : TX M z q w T A B D N C n p O P K Ab Be Cm V F ns sf ef c cnt L) (h0 : mI M (q + 1) 3 = 0) (h60 : F < 60) (ok : mOk M') (f : FI (txS q p O P) M M') (hr : ∀ i, i ≤ 9 → mI M' (q + 1 + i) = mI M (q + 1 + i)) (ep : ∀ i, i ≠ 2 → i ≠ 7 → mI M' p i = mI M p i) (e7 : mI M' p 7 = ((F + 1 : Nat) : Int)) (f6 : ∀ i, 9 ≤ i → i ≤ 15 → mI M' (p + i) = mI M (p + i)) (h7 : ∀ i, i < F → mI M' (p + 7) i = mI M (p + 7) i) (h8 : ∀ i, i < F → mI M' (p + 8) i = mI M (p + 8) i) (f7 : ∀ i, i < L → mI M' O i = mI M O i ∧ mI M' P i = mI M P i) (hLL : L ≤ L') (new : (l1 = 4 ∧ 1 ≤ mI M' (p + 7) F ∧ mI M' (p + 7) F < 1000000000) ∨ (l1 = 7 ∧ mI M' (p + 8) F = ((L : Nat) : Int) ∧ Cod M' O P V F ns L e H 1 ∧ e < L')) : TX M' z q w T A B D N C n p O P K Ab Be Cm V (F + 1) (un ns F l1) (uf sf F L) (uf ef F e) c cnt L' := by
  obtain ⟨hP, ⟨c1, c2, c3, c4⟩, x1, x2⟩ := h
  have hA := (hP.words f).1
  have r0 := hr 0 (by omega)
  rw [Nat.add_zero] at r0
  refine ⟨hP.fi ok f, ⟨by rw [ep 3 (by decide) (by decide)]; exact c1, ⟨e7, by omega⟩, ?_, fun j => by rw [show q + 6 = q + 1 + 5 by omega, hr 5 (by omega)]; exact c4 j⟩, by rw [ep 12 (by decide) (by decide)]; exact x1, fun _ => ?_⟩
  · obtain ⟨n1, n2, n3⟩ := c3
    refine ⟨by rw [r0]; exact n1, n2, fun i hi => ?_⟩
    obtain ⟨m1, m2, m3⟩ := n3 i hi
    rw [hA, hr 6 (by omega), hr 7 (by omega), hr 8 (by omega), hr 9 (by omega)]
    refine ⟨m1, ?_, m3⟩
    rcases m2 with u | ⟨u1, u2, u3, u4⟩
    · exact Or.inl u
    · refine Or.inr ⟨u1, u2, by omega, ?_⟩
      unfold un
      rw [if_neg (by omega)]
      exact u4
  · obtain ⟨u, eu, gu⟩ := x2 h0
    exact ⟨u, by rw [f6 12 (by omega) (by omega)]; exact eu, gu.name hLL f7 (ep 11 (by decide) (by decide)) f6 h7 h8 new⟩
/-- where a fault is noted, the tables don't matter -/
theorem TX.any (h : TX M z q w T A B D N C n p O P K Ab Be Cm V F ns sf ef c cnt L) (hL : mI M (q + 1) 3 = 0 → L ≤ L') : TX M z q w T A B D N C n p O P K Ab Be Cm V F ns sf ef c cnt L' := by
  obtain ⟨hP, hC, x1, x2⟩ := h
  refine ⟨hP, hC, x1, fun h0 => ?_⟩
  obtain ⟨u, eu, gu⟩ := x2 h0
  exact ⟨u, eu, gu.longer (hL h0)⟩
end TRH
end
end
section
section
/-! The class's reader of texts: settleNamed. -/
section TRI
variable {G : mG} {d z q w T A B D N C n p O P K Ab Be Cm V F c s s' L L' cnt Bn a d0 V1 F1 nw k e s9 Ab0 Be0 Cm0 Ab1 Be1 Cm1 : Nat} {M0 M M' M1 M2 : mM} {ns ns' ns1 : Nat → Int} {sf ef sf' ef' : Nat → Nat} {H : Nat → Nat} {S R : Nat → Prop}
theorem wu_tr (f : FA (fun x => x = q + 1 ∨ mcS (q + 11) Ab Be x) (fun x => x = q + 11) M M') (g : (Ab1 = Ab ∨ mZ M ≤ Ab1) ∧ (Be1 = Be ∨ mZ M ≤ Be1)) (r : mS M' + 4 * Cm = mS M + 4 * Cm1 ∧ 32 * mZ M' + Cm ≤ 32 * mZ M + Cm1) : trF M q p O P Ab Be Cm M' Ab1 Be1 Cm1 :=
  ⟨f.mono (fun x _ y => y.elim (fun u => Or.inl (Or.inl ⟨by omega, by omega⟩)) (fun u => Or.inr u)) (fun _ _ y => y), g, r⟩
/-- the places of the program's tables -/
theorem TX.tab (h : TX M z q w T A B D N C n p O P K Ab Be Cm V F ns sf ef c cnt L) : mK M p = 6 ∧ (mR M p 4 = p + 3 ∧ mR M p 5 = p + 4 ∧ mR M p 6 = p + 5 ∧ mR M p 8 = p + 6 ∧ mR M p 9 = p + 7 ∧ mR M p 10 = p + 8 ∧ mR M p 13 = p + 9 ∧ mR M p 14 = p + 10 ∧ mR M p 15 = p + 11 ∧ mR M p 16 = p + 12 ∧ mR M p 17 = p + 13 ∧ mR M p 18 = p + 14 ∧ mR M p 19 = p + 15) ∧ (mK M (p + 3) = 30 ∧ mK M (p + 4) = 30 ∧ mK M (p + 5) = 30 ∧ mK M (p + 6) = 30 ∧ mK M (p + 7) = 30 ∧ mK M (p + 8) = 30 ∧ mK M (p + 9) = 30 ∧ mK M (p + 10) = 30 ∧ mK M (p + 11) = 30 ∧ mK M (p + 12) = 30 ∧ mK M (p + 13) = 30 ∧ mK M (p + 14) = 30 ∧ mK M (p + 15) = 30) ∧ (mN M (p + 3) = 12 ∧ mN M (p + 4) = 12 ∧ mN M (p + 5) = 12 ∧ mN M (p + 6) = 60 ∧ mN M (p + 7) = 60 ∧ mN M (p + 8) = 60 ∧ mN M (p + 9) = 60 ∧ mN M (p + 10) = 60 ∧ mN M (p + 11) = 60 ∧ mN M (p + 12) = 61 ∧ mN M (p + 13) = 480 ∧ mN M (p + 14) = 480 ∧ mN M (p + 15) = 480) := ⟨h.1.1.2.2.2.2.1.1, h.1.1.2.2.2.2.1.2.2.2.2.2.2⟩
end TRI
end
section
/-! The class's reader of texts: settleNamed, the whole; settleVar. -/
section TRJ
variable {G : mG} {d z q w T A B D N C n p O P K Ab Be Cm V F c s s' L L' cnt Bn a d0 V1 F1 nw k e s9 Ab0 Be0 Cm0 Ab1 Be1 Cm1 : Nat} {M0 M M' M1 M2 : mM} {ns ns' ns1 : Nat → Int} {sf ef sf' ef' : Nat → Nat} {H : Nat → Nat} {S R : Nat → Prop}
/-- a var that is being settled -/
def svS (M0 : mM) (z q w T A B D N C n p O P K Ab0 Be0 Cm0 V F : Nat) (ns : Nat → Int) (sf ef : Nat → Nat) (c cnt L s a nw : Nat) (M : mM) : Prop := ∃ Ab Be Cm, TX M z q w T A B D N C n p O P K Ab Be Cm V F ns sf ef c cnt L ∧ trF M0 q p O P Ab0 Be0 Cm0 M Ab Be Cm ∧ vrS M q A n p L s a nw V ∧ (mI M q 8 = 0 → rvR M q O P F ns L s 0 ∧ rvR M q O P F ns L s 1) ∧ (mI M q 7 ≠ 0 → rvR M q O P F ns L s 2)
theorem svS.pl (h : svS M0 z q w T A B D N C n p O P K Ab0 Be0 Cm0 V F ns sf ef c cnt L s a nw M) : mOk M ∧ mK M q = 3 ∧ mR M q 0 = q + 1 ∧ mK M (q + 1) = 4 ∧ mR M q 1 = q + 11 ∧ mK M (q + 11) = 5 ∧ mK M (mR M (q + 11) 6) = 30 ∧ (0 : Int) < mN M (mR M (q + 11) 6) ∧ mR M q 6 = q + 22 ∧ mK M (q + 22) = 30 ∧ mN M (q + 22) = 3 := by
  obtain ⟨Ab, Be, Cm, h1, -⟩ := h
  obtain ⟨t0, t1, t2, t3, t4, t5⟩ := h1.1.2.1
  obtain ⟨s1, s2, s3, s4⟩ := h1.1.2.2.1
  have hk := h1.1.2.2.2.1
  have m6 := hk.2.1.2.2.1
  have n6 := hk.2.2.2.1.2.1
  have c6 := hk.2.2.2.2.2.2.2.1
  exact ⟨h1.1.1.1, t0, t1, h1.1.1.2.1.1, t2, hk.1, by rw [m6]; exact hk.2.2.1.2.2.1, by rw [m6, n6]; omega, t5, s2, s4⟩
end TRJ
end
section
/-! The class's reader of texts: settleVar. -/
section TRK
variable {G : mG} {d z q w T A B D N C n p O P K Ab Be Cm V F c s s' L L' cnt Bn a d0 V1 F1 nw k e s9 Ab0 Be0 Cm0 Ab1 Be1 Cm1 : Nat} {M0 M M' M1 M2 : mM} {ns ns' ns1 : Nat → Int} {sf ef sf' ef' : Nat → Nat} {H : Nat → Nat} {S R : Nat → Prop}
theorem TN.more {r : Nat} (h : TN M r A n V F ns c) (hA : mI M' A = mI M A) (hr : mI M' r = mI M r) (ht : ∀ i, 6 ≤ i → i ≤ 9 → mI M' (r + i) = mI M (r + i)) : TN M' r A n (V + 1) F ns c := by
  obtain ⟨n1, n2, n3⟩ := h
  refine ⟨by rw [hr]; exact n1, n2, fun i hi => ?_⟩
  obtain ⟨m1, m2, m3⟩ := n3 i hi
  rw [hA, ht 6 (by omega) (by omega), ht 7 (by omega) (by omega), ht 8 (by omega) (by omega), ht 9 (by omega) (by omega)]
  refine ⟨m1, ?_, m3⟩
  rcases m2 with ⟨u1, u2, u3⟩ | u
  · exact Or.inl ⟨u1, u2, by omega⟩
  · exact Or.inr u
theorem PX.var (h : PX M q p O P V F ns sf ef L cnt) (f3 : mI M (q + 1) 3 ≠ 0 → mI M' (q + 1) 3 ≠ 0) (f5 : ∀ i, i ≠ 2 → i ≠ 3 → mI M' p i = mI M p i) (f6 : ∀ i, 6 ≤ i → i ≤ 15 → mI M' (p + i) = mI M (p + i)) (f7 : ∀ i, i < L → mI M' O i = mI M O i ∧ mI M' P i = mI M P i) : PX M' q p O P (V + 1) F ns sf ef L cnt := by
  obtain ⟨a1, a2⟩ := h
  refine ⟨by rw [f5 12 (by decide) (by decide)]; exact a1, fun h0 => ?_⟩
  obtain ⟨u, e, g1, g2, g3, g4, g5, g6, g7⟩ := a2 (Classical.byContradiction (fun y => f3 y h0))
  have cg : ∀ {s h : Nat}, PC M O P V F ns ef L s h → PC M' O P (V + 1) F ns ef L s h := fun hc => (hc.cg (M' := M') (fun i hi => (f7 i hi).1) (fun i hi => (f7 i hi).2)).wide (Nat.le_succ _) (Nat.le_refl _) (Nat.le_refl _) (fun _ _ => ⟨rfl, rfl⟩)
  refine ⟨u, by rw [f6 12 (by omega) (by omega)]; exact e, (g1.cg (M' := M') (fun i hi => (f7 i hi).1) (fun i hi => (f7 i hi).2) (fun i _ => by rw [f6 7 (by omega) (by omega)]) (fun i _ => by rw [f6 8 (by omega) (by omega)])).wide (Nat.le_succ _) (Nat.le_refl _), ?_, fun j hj => ?_, by rw [f6 12 (by omega) (by omega)]; exact g4, by rw [f6 12 (by omega) (by omega)]; exact g5, by rw [f6 12 (by omega) (by omega)]; exact g6, fun b hb => ?_⟩
  · rw [f5 11 (by decide) (by decide)]
    exact g2.imp (fun y => y) (fun ⟨s, y1, y2⟩ => ⟨s, y1, cg y2⟩)
  · obtain ⟨s, y1, y2⟩ := g3 j hj
    exact ⟨s, by rw [f6 11 (by omega) (by omega)]; exact y1, cg y2⟩
  · obtain ⟨s1, s2, y1, y2, y3, y4⟩ := g7 b hb
    exact ⟨s1, s2, by rw [f6 14 (by omega) (by omega)]; exact y1, cg y2, by rw [f6 15 (by omega) (by omega)]; exact y3, cg y4⟩
end TRK
end
end
section
theorem u7a {q p O P b : Nat} (s : q + 22 < p ∨ p + 15 < q) (o : O < q ∨ q + 22 < O) (o' : P < q ∨ q + 22 < P) (hb : b = q ∨ b = q + 21 ∨ b = q + 22) (y : (q + 1 ≤ b ∧ b ≤ q + 1 + 9) ∨ b = p ∨ b = O ∨ b = P) : False := by
  have h : q ≤ b ∧ b ≤ q + 22 ∧ ¬ (q + 1 ≤ b ∧ b ≤ q + 1 + 9) := by
    rcases hb with e | e | e <;> subst e <;> exact ⟨by omega, by omega, by omega⟩
  clear hb
  rcases y with y | y | y | y
  · exact h.2.2 y
  · clear o o'; omega
  · clear s o'; omega
  · clear s o; omega
theorem u7b {p O i k : Nat} (o : O < p ∨ O = p + k ∨ p + 15 < O) (hk : k ≤ 2) (hi : 3 ≤ i) (h15 : i ≤ 15) : O ≠ p + i := by omega
theorem u7c {q O i : Nat} (o : O < q ∨ q + 22 < O) (hi : i ≤ 22) : O ≠ q + i := by omega
theorem u7d {q p x i : Nat} (qp : q + 22 < p ∨ p + 15 < q) (h1 : q ≤ x) (h2 : x ≤ q + 22) (h15 : i ≤ 15) : x ≠ p + i := by omega
theorem u7e {q x A B : Nat} (u1 : ¬ (q ≤ x ∧ x ≤ q + 22)) (u2 : x ≠ A) (u3 : x ≠ B) (y : x = q + 11 ∨ x = q + 11 + 2 ∨ (q + 11 + 5 ≤ x ∧ x ≤ q + 11 + 9) ∨ x = A ∨ x = B) : False := by
  rcases y with y | y | y | y | y
  · exact u1 ⟨by omega, by omega⟩
  · exact u1 ⟨by omega, by omega⟩
  · exact u1 ⟨by omega, by omega⟩
  · exact u2 y
  · exact u3 y
theorem u7f {q p O P b i : Nat} (y : b = p + i) (h3 : 3 ≤ i) (h15 : i ≤ 15) : (q ≤ b ∧ b ≤ q + 10) ∨ b = q + 21 ∨ b = q + 22 ∨ b = p ∨ (p + 3 ≤ b ∧ b ≤ p + 15) ∨ b = O ∨ b = P := Or.inr (Or.inr (Or.inr (Or.inr (Or.inl ⟨by omega, by omega⟩))))
section
/-! The class's reader of texts: sets. -/
section TRL
variable {G : mG} {d z q w T A B D N C n p O P K Ab Be Cm V F c s s' L L' cnt Bn a d0 V1 F1 nw k e s9 S0 wd Ab0 Be0 Cm0 Ab1 Be1 Cm1 : Nat} {M0 M M' M1 M2 : mM} {ns ns' ns1 : Nat → Int} {sf ef sf' ef' : Nat → Nat} {H H1 : Nat → Nat} {S R : Nat → Prop}
theorem CO.join {s1 : Nat} (h : CO M O P V F ns H S0 s1 (fun _ => False)) (h0 : H s1 = 0) (g : CO M O P V F ns H1 s1 e (fun _ => False)) (g0 : H1 s1 = 0) (hs : S0 ≤ s1) (he : s1 ≤ e) : ∃ H', CO M O P V F ns H' S0 e (fun _ => False) ∧ H' S0 = H S0 ∧ H' e = H1 e := by
  obtain ⟨H', hH⟩ : ∃ H' : Nat → Nat, ∀ i, H' i = if i ≤ s1 then H i else H1 i := ⟨fun i => if i ≤ s1 then H i else H1 i, fun _ => rfl⟩
  have lo : ∀ i, i ≤ s1 → H' i = H i := fun i hi => by rw [hH, if_pos hi]
  have hi' : ∀ i, s1 ≤ i → H' i = H1 i := fun i hi => by
    by_cases y : i = s1
    · rw [y, lo s1 (Nat.le_refl _), h0, g0]
    · rw [hH, if_neg (by omega)]
  refine ⟨H', fun pc p0 p1 => ?_, lo S0 hs, hi' e he⟩
  by_cases y : pc < s1
  · obtain ⟨a1, a2, a3⟩ := h pc p0 y
    refine ⟨a1.cg (lo pc (by omega)) (lo (pc + 1) (by omega)), fun u => ?_, by rw [lo pc (by omega)]; exact a3⟩
    rcases a2 u with v | v
    · exact v.elim
    · exact Or.inr (v.cg (by omega) y (fun i hi => lo i hi))
  · obtain ⟨a1, a2, a3⟩ := g pc (by omega) p1
    refine ⟨a1.cg (hi' pc (by omega)) (hi' (pc + 1) (by omega)), fun u => ?_, by rw [hi' pc (by omega)]; omega⟩
    rcases a2 u with v | ⟨t, e1, t1, t2, t3, t4⟩
    · exact v.elim
    · refine Or.inr ⟨t, e1, t1, t2, ?_, ?_⟩
      · rw [hi' t (by omega), hi' pc (by omega)]; exact t3
      · rw [hi' t (by omega), hi' pc (by omega)]; exact t4
/-- the code of sets from S0 to s -/
def scI (M : mM) (O P V F : Nat) (ns : Nat → Int) (S0 s : Nat) : Prop := ∃ H, CO M O P V F ns H S0 s (fun _ => False) ∧ H S0 = 0 ∧ H s = 0 ∧ S0 ≤ s
theorem scI.cg (h : scI M O P V F ns S0 s) (hO : ∀ i, i < s → mI M' O i = mI M O i ∧ mI M' P i = mI M P i) : scI M' O P V F ns S0 s := by
  obtain ⟨H, h1, h2⟩ := h
  refine ⟨H, fun pc p0 p1 => ?_, h2⟩
  rw [(hO pc p1).1, (hO pc p1).2]
  exact h1 pc p0 p1
/-- one set more: a rule from s to e, and its SET -/
theorem scI.set {x : Int} (h : scI M O P V F ns S0 s) (g : CO M O P V F ns H1 s e (fun _ => False)) (g0 : H1 s = 0) (g1 : H1 e = 1) (hse : 1 + s ≤ e) (hO : ∀ i, mI M' O i = if i = e then 43 else mI M O i) (hP : ∀ i, mI M' P i = if i = e then x else mI M P i) (hx : 0 ≤ x ∧ x ≤ 1000000 ∧ x % 16 < V) : scI M' O P V F ns S0 (e + 1) := by
  obtain ⟨H, h1, h2, h3, h4⟩ := h
  obtain ⟨H', j1, j2, j3⟩ := h1.join h3 g g0 h4 (by omega)
  obtain ⟨H2, hH⟩ : ∃ H2 : Nat → Nat, ∀ i, H2 i = if i ≤ e then H' i else 0 := ⟨fun i => if i ≤ e then H' i else 0, fun _ => rfl⟩
  have lo : ∀ i, i ≤ e → H2 i = H' i := fun i hi => by rw [hH, if_pos hi]
  have l1 : H2 (e + 1) = 0 := by rw [hH, if_neg (by omega)]
  have l0 := lo e (Nat.le_refl _)
  refine ⟨H2, j1.add (by omega) lo (by omega) hO hP (fun i _ u => u) ?_ (fun u => ?_), by rw [lo S0 (by omega), j2, h2], l1, by omega⟩
  · exact Or.inr (Or.inr (Or.inr (Or.inr (Or.inr (Or.inr (Or.inr ⟨rfl, hx.1, hx.2.1, hx.2.2, by omega⟩))))))
  · exact absurd u (by unfold jm; omega)
def rsI (M0 : mM) (z q w T A B D N C n p O P K Ab Be Cm V F : Nat) (ns : Nat → Int) (sf ef : Nat → Nat) (c cnt L S0 a s9 : Nat) (M : mM) : Prop := TX M z q w T A B D N C n p O P K Ab Be Cm V F ns sf ef c cnt L ∧ txF M0 q p O P S0 M ∧ mI M (q + 1) 2 = ((a : Nat) : Int) ∧ a ≤ n ∧ mI M p 2 = ((s9 : Nat) : Int) ∧ S0 ≤ s9 ∧ s9 ≤ a ∧ mI M (q + 1) 5 = 0 ∧ mI M (q + 1) 6 = 0 ∧ (mI M (q + 1) 3 = 0 → scI M O P V F ns S0 s9) ∧ L ≤ S0
def rsQ9 (M0 : mM) (z q w T A B D N C n p O P K Ab Be Cm V F : Nat) (ns : Nat → Int) (sf ef : Nat → Nat) (c cnt L S0 : Nat) (x : Int) (M : mM) : Prop := txF M0 q p O P S0 M ∧ ((x = 0 ∧ nstQ z q w T A B D N C n p O P K Ab Be Cm V F ns sf ef c cnt L M) ∨ (x = 1 ∧ TX M z q w T A B D N C n p O P K Ab Be Cm V F ns sf ef c cnt L ∧ ∃ a s9 : Nat, mI M (q + 1) 2 = ((a : Nat) : Int) ∧ a ≤ n ∧ mI M p 2 = ((s9 + 1 : Nat) : Int) ∧ S0 ≤ s9 ∧ s9 ≤ a ∧ mI M (q + 1) 5 = 0 ∧ mI M (q + 1) 6 = 0 ∧ (mI M (q + 1) 3 = 0 → ∃ H, Cod M O P V F ns S0 s9 H 0)))
end TRL
end
section
/-! The class's reader of texts: sets, the whole; chances. -/
section TRM
variable {G : mG} {d z q w T A B D N C n p O P K Ab Be Cm V F c s s' L L' cnt Bn a d0 V1 F1 nw k e s9 S0 wd ix nbr Ab0 Be0 Cm0 Ab1 Be1 Cm1 : Nat} {M0 M M' M1 M2 : mM} {ns ns' ns1 : Nat → Int} {sf ef sf' ef' : Nat → Nat} {H H1 : Nat → Nat} {S R : Nat → Prop}
theorem rsI.note (h : rsI M0 z q w T A B D N C n p O P K Ab Be Cm V F ns sf ef c cnt L S0 a s9 M) (h2 : TX M' z q w T A B D N C n p O P K Ab Be Cm V F ns sf ef c cnt L) (x2 : txF M q p O P L M') (r2 : ∀ i, i ≠ 3 → i ≠ 4 → mI M' (q + 1) i = mI M (q + 1) i) (b2 : ∀ b, b ≠ q + 1 → mI M' b = mI M b) : rsI M0 z q w T A B D N C n p O P K Ab Be Cm V F ns sf ef c cnt L S0 a s9 M' := by
  obtain ⟨h1, f1, a1, a2, p1, p2, p3, d1, c1, sc, hL⟩ := h
  obtain ⟨⟨np0, np1, -, -⟩, ⟨nO0, nO1, -, -, -⟩, nP0, nP1, -, -, -⟩ := h1.1.ne
  refine ⟨h2, f1.trans ⟨x2.1, x2.2.1, x2.2.2.1, x2.2.2.2.1, x2.2.2.2.2.1, x2.2.2.2.2.2.1, fun i _ => ⟨by rw [b2 O nO1], by rw [b2 P nP1]⟩⟩, by rw [r2 2 (by decide) (by decide)]; exact a1, a2, by rw [b2 p np1]; exact p1, p2, p3, by rw [r2 5 (by decide) (by decide)]; exact d1, by rw [r2 6 (by decide) (by decide)]; exact c1, fun y => ?_, hL⟩
  exact (sc (Classical.byContradiction (fun u => x2.2.2.1 u y))).cg (fun i _ => ⟨by rw [b2 O nO1], by rw [b2 P nP1]⟩)
/-- a word more -/
theorem rsI.acc (h : rsI M0 z q w T A B D N C n p O P K Ab Be Cm V F ns sf ef c cnt L S0 a s9 M) (h2 : TX M' z q w T A B D N C n p O P K Ab Be Cm V F ns sf ef c cnt L) (x2 : txF M q p O P L M') (ha : mI M' (q + 1) 2 = ((a + 1 : Nat) : Int)) (han : a < n) (r2 : ∀ i, i ≠ 2 → mI M' (q + 1) i = mI M (q + 1) i) (b2 : ∀ b, b ≠ q + 1 → mI M' b = mI M b) : rsI M0 z q w T A B D N C n p O P K Ab Be Cm V F ns sf ef c cnt L S0 (a + 1) s9 M' := by
  obtain ⟨h1, f1, a1, a2, p1, p2, p3, d1, c1, sc, hL⟩ := h
  obtain ⟨⟨np0, np1, -, -⟩, ⟨nO0, nO1, -, -, -⟩, nP0, nP1, -, -, -⟩ := h1.1.ne
  refine ⟨h2, f1.trans ⟨x2.1, x2.2.1, x2.2.2.1, x2.2.2.2.1, x2.2.2.2.2.1, x2.2.2.2.2.2.1, fun i _ => ⟨by rw [b2 O nO1], by rw [b2 P nP1]⟩⟩, ha, han, by rw [b2 p np1]; exact p1, p2, Nat.le_succ_of_le p3, by rw [r2 5 (by decide)]; exact d1, by rw [r2 6 (by decide)]; exact c1, fun y => ?_, hL⟩
  exact (sc (Classical.byContradiction (fun u => x2.2.2.1 u y))).cg (fun i _ => ⟨by rw [b2 O nO1], by rw [b2 P nP1]⟩)
end TRM
end
section
/-! The class's reader of texts: a command's chances. -/
section TRN
variable {G : mG} {d z q w T A B D N C n p O P K Ab Be Cm V F c s s' L L' cnt Bn a d0 V1 F1 nw k e s9 S0 wd ix nbr u v Ab0 Be0 Cm0 Ab1 Be1 Cm1 : Nat} {M0 M M' M1 M2 : mM} {ns ns' ns1 : Nat → Int} {sf ef sf' ef' : Nat → Nat} {H H1 : Nat → Nat} {S R : Nat → Prop}
theorem PG.cg (h : PG M p O P V F ns sf ef L cnt Bn) (h11 : mI M' p 11 = mI M p 11) (f6 : ∀ i, 7 ≤ i → i ≤ 12 → mI M' (p + i) = mI M (p + i)) (fb : ∀ b, b < Bn → mI M' (p + 14) b = mI M (p + 14) b ∧ mI M' (p + 15) b = mI M (p + 15) b) (f7 : ∀ i, i < L → mI M' O i = mI M O i ∧ mI M' P i = mI M P i) : PG M' p O P V F ns sf ef L cnt Bn := by
  obtain ⟨g1, g2, g3, g4, g5, g6, g7⟩ := h
  have cg : ∀ {s h : Nat}, PC M O P V F ns ef L s h → PC M' O P V F ns ef L s h := fun hc => hc.cg (fun i hi => (f7 i hi).1) (fun i hi => (f7 i hi).2)
  refine ⟨g1.cg (fun i hi => (f7 i hi).1) (fun i hi => (f7 i hi).2) (fun i _ => by rw [f6 7 (by omega) (by omega)]) (fun i _ => by rw [f6 8 (by omega) (by omega)]), ?_, fun j hj => ?_, by rw [f6 12 (by omega) (by omega)]; exact g4, by rw [f6 12 (by omega) (by omega)]; exact g5, by rw [f6 12 (by omega) (by omega)]; exact g6, fun b hb => ?_⟩
  · rw [h11]
    exact g2.imp (fun y => y) (fun ⟨s, y1, y2⟩ => ⟨s, y1, cg y2⟩)
  · obtain ⟨s, y1, y2⟩ := g3 j hj
    exact ⟨s, by rw [f6 11 (by omega) (by omega)]; exact y1, cg y2⟩
  · obtain ⟨s1, s2, y1, y2, y3, y4⟩ := g7 b hb
    exact ⟨s1, s2, by rw [(fb b hb).1]; exact y1, cg y2, by rw [(fb b hb).2]; exact y3, cg y4⟩
/-- a command that is being read: its guard, and nbr branches -/
def CY (M : mM) (q p O P V F : Nat) (ns : Nat → Int) (sf ef : Nat → Nat) (L cnt ix nbr : Nat) : Prop := mI M (q + 1) 3 = 0 → ix = cnt ∧ cnt < 60 ∧ ∃ u v : Nat, mI M (p + 12) cnt = ((u : Nat) : Int) ∧ mI M (p + 12) (cnt + 1) = ((v : Nat) : Int) ∧ v = u + nbr ∧ nbr ≤ 8 ∧ PG M p O P V F ns sf ef L cnt v ∧ ∃ s : Nat, mI M (p + 11) cnt = ((s : Nat) : Int) ∧ PC M O P V F ns ef L s 1
theorem CY.cg (h : CY M q p O P V F ns sf ef L cnt ix nbr) (f3 : mI M (q + 1) 3 ≠ 0 → mI M' (q + 1) 3 ≠ 0) (h11 : mI M' p 11 = mI M p 11) (f6 : ∀ i, 7 ≤ i → i ≤ 12 → mI M' (p + i) = mI M (p + i)) (fb : ∀ v, mI M (p + 12) (cnt + 1) = ((v : Nat) : Int) → ∀ b, b < v → mI M' (p + 14) b = mI M (p + 14) b ∧ mI M' (p + 15) b = mI M (p + 15) b) (f7 : ∀ i, i < L → mI M' O i = mI M O i ∧ mI M' P i = mI M P i) : CY M' q p O P V F ns sf ef L cnt ix nbr := fun h0 => by
  obtain ⟨a1, a2, u, v, b1, b2, b3, b4, b5, s, b6, b7⟩ := h (Classical.byContradiction (fun y => f3 y h0))
  exact ⟨a1, a2, u, v, by rw [f6 12 (by omega) (by omega)]; exact b1, by rw [f6 12 (by omega) (by omega)]; exact b2, b3, b4, b5.cg h11 f6 (fb v b2) f7, s, by rw [f6 11 (by omega) (by omega)]; exact b6, b7.cg (fun i hi => (f7 i hi).1) (fun i hi => (f7 i hi).2)⟩
theorem CY.tx (h : CY M q p O P V F ns sf ef L cnt ix nbr) (f : txE M q p O P L M') : CY M' q p O P V F ns sf ef L cnt ix nbr := by
  obtain ⟨f2, f3, f4, f5, f6, f7⟩ := f
  exact h.cg f3 (f5 11 (by decide)) (fun i _ _ => f6 i (by omega) (by omega)) (fun v _ b _ => ⟨by rw [f6 14 (by omega) (by omega)], by rw [f6 15 (by omega) (by omega)]⟩) f7
theorem CY.longer (h : CY M q p O P V F ns sf ef L cnt ix nbr) (hL : L ≤ L') : CY M q p O P V F ns sf ef L' cnt ix nbr := fun h0 => by
  obtain ⟨a1, a2, u, v, b1, b2, b3, b4, b5, s, b6, b7⟩ := h h0
  exact ⟨a1, a2, u, v, b1, b2, b3, b4, b5.longer hL, s, b6, b7.wide (Nat.le_refl _) (Nat.le_refl _) hL (fun _ _ => ⟨rfl, rfl⟩)⟩
/-- what readChance comes to -/
def chQ9 (M0 : mM) (z q w T A B D N C n p O P K Ab Be Cm V F : Nat) (ns : Nat → Int) (sf ef : Nat → Nat) (c cnt L ix nbr : Nat) (x : Int) (M : mM) : Prop := FI (txS q p O P) M0 M ∧ ((x = 0 ∧ nstQ z q w T A B D N C n p O P K Ab Be Cm V F ns sf ef c cnt L M) ∨ (x = 1 ∧ TX M z q w T A B D N C n p O P K Ab Be Cm V F ns sf ef c cnt L ∧ (mI M0 (q + 1) 3 ≠ 0 → mI M (q + 1) 3 ≠ 0) ∧ ∃ a e : Nat, mI M (q + 1) 2 = ((a : Nat) : Int) ∧ a ≤ n ∧ mI M p 2 = ((e + 1 : Nat) : Int) ∧ L ≤ e ∧ e + 1 ≤ a ∧ mI M (q + 1) 5 = 0 ∧ mI M (q + 1) 6 = 0 ∧ CY M q p O P V F ns sf ef L cnt ix nbr ∧ (mI M (q + 1) 3 = 0 → ∃ v H, mI M (p + 12) (cnt + 1) = ((v : Nat) : Int) ∧ mI M (p + 14) v = ((L : Nat) : Int) ∧ mI M (p + 15) v = ((e + 1 : Nat) : Int) ∧ Cod M O P V F ns L e H 1)))
/-- the tables of branches are written at v -/
theorem tx_br {x : Int} (h : TX M z q w T A B D N C n p O P K Ab Be Cm V F ns sf ef c cnt L) (cy : CY M q p O P V F ns sf ef L cnt ix nbr) (h0 : mI M (q + 1) 3 = 0) (hv : mI M (p + 12) (cnt + 1) = ((v : Nat) : Int)) (ok : mOk M') (f : FI (fun b => b = p + 13 ∨ b = p + 14 ∨ b = p + 15) M M') (e14 : ∀ i, mI M' (p + 14) i = if i = v then ((L : Nat) : Int) else mI M (p + 14) i) (e15 : ∀ i, mI M' (p + 15) i = if i = v then x else mI M (p + 15) i) : TX M' z q w T A B D N C n p O P K Ab Be Cm V F ns sf ef c cnt L ∧ CY M' q p O P V F ns sf ef L cnt ix nbr ∧ FI (txS q p O P) M M' ∧ (∀ b, b ≠ p + 13 → b ≠ p + 14 → b ≠ p + 15 → mI M' b = mI M b) := by
  have ap := h.1.apart
  have qp := h.1.2.2.2.2.2.1.2.1
  have nb : ∀ b, b ≠ p + 13 → b ≠ p + 14 → b ≠ p + 15 → mI M' b = mI M b := fun b b1 b2 b3 => f.2.2.2.2.2.2 b (fun y => by
    have y' : b = p + 13 ∨ b = p + 14 ∨ b = p + 15 := y
    exact y'.elim b1 (fun y => y.elim b2 b3))
  have fx : FI (txS q p O P) M M' := f.mono (fun b y => by
    have y' : b = p + 13 ∨ b = p + 14 ∨ b = p + 15 := y
    rcases y' with y | y | y
    · exact u7f y (by decide) (by decide)
    · exact u7f y (by decide) (by decide)
    · exact u7f y (by decide) (by decide))
  have nO := nb O (by first | (have h1 := ap.2.2.2.1; have h2 := ap.2.1; omega) | omega) (by first | (have h1 := ap.2.2.2.1; have h2 := ap.2.1; omega) | omega) (by first | (have h1 := ap.2.2.2.1; have h2 := ap.2.1; omega) | omega)
  have nP := nb P (by first | (have h1 := ap.2.2.2.2.1; have h2 := ap.2.2.1; omega) | omega) (by first | (have h1 := ap.2.2.2.2.1; have h2 := ap.2.2.1; omega) | omega) (by first | (have h1 := ap.2.2.2.2.1; have h2 := ap.2.2.1; omega) | omega)
  have np := nb p (by first | (have h1 := qp; omega) | omega) (by first | (have h1 := qp; omega) | omega) (by first | (have h1 := qp; omega) | omega)
  have nr : ∀ i, i ≤ 10 → mI M' (q + i) = mI M (q + i) := fun i hi => nb _ (u7d qp (by omega) (by omega) (by decide)) (u7d qp (by omega) (by omega) (by decide)) (u7d qp (by omega) (by omega) (by decide))
  have n6 : ∀ i, 7 ≤ i → i ≤ 12 → mI M' (p + i) = mI M (p + i) := fun i h7 h12 => nb _ (by omega) (by omega) (by omega)
  have fb : ∀ b, b < v → mI M' (p + 14) b = mI M (p + 14) b ∧ mI M' (p + 15) b = mI M (p + 15) b := fun b hb => ⟨by rw [e14, if_neg (by omega)], by rw [e15, if_neg (by omega)]⟩
  clear ap qp
  obtain ⟨hP, ⟨c1, c2, c3, c4⟩, x1, x2⟩ := h
  refine ⟨⟨hP.fi ok fx, ⟨by rw [np]; exact c1, by rw [np]; exact c2, ?_, fun j => by rw [nr 6 (by omega)]; exact c4 j⟩, by rw [np]; exact x1, fun _ => ?_⟩, cy.cg (fun y => by rw [nr 1 (by omega)]; exact y) (by rw [np]) n6 (fun v' hv' b hb => ?_) (fun i _ => ⟨by rw [nO], by rw [nP]⟩), fx, nb⟩
  · unfold TN at c3 ⊢
    rw [(hP.words fx).1, nr 1 (by omega), show q + 1 + 6 = q + 7 by omega, show q + 1 + 7 = q + 8 by omega, show q + 1 + 8 = q + 9 by omega, show q + 1 + 9 = q + 10 by omega, nr 7 (by omega), nr 8 (by omega), nr 9 (by omega), nr 10 (by omega)]
    exact c3
  · obtain ⟨u, eu, gu⟩ := x2 h0
    obtain ⟨-, -, u', v', b1, b2, b3, -⟩ := cy h0
    have uv : u ≤ v := by
      rw [eu] at b1
      rw [hv] at b2
      omega
    exact ⟨u, by rw [n6 12 (by omega) (by omega)]; exact eu, gu.cg (by rw [np]) n6 (fun b hb => fb b (by omega)) (fun i _ => ⟨by rw [nO], by rw [nP]⟩)⟩
  · rw [hv] at hv'
    exact fb b (by omega)
end TRN
end
end
section
section
/-! The class's reader of texts: a command's branches. -/
section TRO
variable {G : mG} {d z q w T A B D N C n p O P K Ab Be Cm V F c s s' L L' cnt Bn a d0 V1 F1 nw k e s9 S0 wd ix nbr u v Ab0 Be0 Cm0 Ab1 Be1 Cm1 : Nat} {M0 M M' M1 M2 : mM} {ns ns' ns1 : Nat → Int} {sf ef sf' ef' : Nat → Nat} {H H1 : Nat → Nat} {S R : Nat → Prop}
theorem PG.up (h : PG M p O P V F ns sf ef L cnt Bn) (h11 : mI M' p 11 = mI M p 11) (t7 : mI M' (p + 7) = mI M (p + 7)) (t8 : mI M' (p + 8) = mI M (p + 8)) (t11 : ∀ j, j < cnt → mI M' (p + 11) j = mI M (p + 11) j) (t12 : ∀ j, j ≤ cnt → mI M' (p + 12) j = mI M (p + 12) j) (fb : ∀ b, b < Bn → mI M' (p + 14) b = mI M (p + 14) b ∧ mI M' (p + 15) b = mI M (p + 15) b) (f7 : ∀ i, i < L → mI M' O i = mI M O i ∧ mI M' P i = mI M P i) : PG M' p O P V F ns sf ef L cnt Bn := by
  obtain ⟨g1, g2, g3, g4, g5, g6, g7⟩ := h
  have cg : ∀ {s h : Nat}, PC M O P V F ns ef L s h → PC M' O P V F ns ef L s h := fun hc => hc.cg (fun i hi => (f7 i hi).1) (fun i hi => (f7 i hi).2)
  refine ⟨g1.cg (fun i hi => (f7 i hi).1) (fun i hi => (f7 i hi).2) (fun i _ => by rw [t7]) (fun i _ => by rw [t8]), ?_, fun j hj => ?_, by rw [t12 0 (by omega)]; exact g4, fun j hj => by rw [t12 j (by omega), t12 (j + 1) (by omega)]; exact g5 j hj, by rw [t12 cnt (Nat.le_refl _)]; exact g6, fun b hb => ?_⟩
  · rw [h11]
    exact g2.imp (fun y => y) (fun ⟨s, y1, y2⟩ => ⟨s, y1, cg y2⟩)
  · obtain ⟨s, y1, y2⟩ := g3 j hj
    exact ⟨s, by rw [t11 j hj]; exact y1, cg y2⟩
  · obtain ⟨s1, s2, y1, y2, y3, y4⟩ := g7 b hb
    exact ⟨s1, s2, by rw [(fb b hb).1]; exact y1, cg y2, by rw [(fb b hb).2]; exact y3, cg y4⟩
/-- a table of commands is written, where no command is yet -/
theorem TX.up {b j : Nat} {x : Int} (h : TX M z q w T A B D N C n p O P K Ab Be Cm V F ns sf ef c cnt L) (hx : i32 x) (e1 : M' = mUI M (p + b) j x) (hb : 9 ≤ b ∧ b ≤ 12) (h11 : b = 11 → mI M (q + 1) 3 = 0 → cnt ≤ j) (h12 : b = 12 → mI M (q + 1) 3 = 0 → cnt < j) : TX M' z q w T A B D N C n p O P K Ab Be Cm V F ns sf ef c cnt L ∧ FI (txS q p O P) M M' ∧ (∀ y, y ≠ p + b → mI M' y = mI M y) ∧ (∀ i, mI M' (p + b) i = if i = j then x else mI M (p + b) i) := by
  have ap := h.1.apart
  have qp := h.1.2.2.2.2.2.1.2.1
  have ok : mOk M' := by rw [e1]; exact mOk_UI h.1.1.1 hx
  have f : FI (fun y => y = p + b) M M' := by rw [e1]; exact FI.ui rfl
  have nb : ∀ y, y ≠ p + b → mI M' y = mI M y := fun y hy => f.2.2.2.2.2.2 y hy
  have ib : ∀ i, mI M' (p + b) i = if i = j then x else mI M (p + b) i := fun i => by
    rw [mI_ui _ i e1]
    by_cases y : i = j
    · rw [if_pos ⟨rfl, y⟩, if_pos y]
    · rw [if_neg (fun t => y t.2), if_neg y]
  have fx : FI (txS q p O P) M M' := f.mono (fun y hy => by
    have hy' : y = p + b := hy
    exact u7f hy' (by omega) (by omega))
  have nO := nb O (by first | (have h1 := ap.2.2.2.1; have h2 := ap.2.1; omega) | omega)
  have nP := nb P (by first | (have h1 := ap.2.2.2.2.1; have h2 := ap.2.2.1; omega) | omega)
  have np := nb p (by first | (have h1 := qp; omega) | omega)
  have nr : ∀ i, i ≤ 10 → mI M' (q + i) = mI M (q + i) := fun i hi => nb _ (by omega)
  obtain ⟨hP, ⟨c1, c2, c3, c4⟩, x1, x2⟩ := h
  refine ⟨⟨hP.fi ok fx, ⟨by rw [np]; exact c1, by rw [np]; exact c2, ?_, fun j => by rw [nr 6 (by omega)]; exact c4 j⟩, by rw [np]; exact x1, fun y0 => ?_⟩, fx, nb, ib⟩
  · unfold TN at c3 ⊢
    rw [(hP.words fx).1, nr 1 (by omega), show q + 1 + 6 = q + 7 by omega, show q + 1 + 7 = q + 8 by omega, show q + 1 + 8 = q + 9 by omega, show q + 1 + 9 = q + 10 by omega, nr 7 (by omega), nr 8 (by omega), nr 9 (by omega), nr 10 (by omega)]
    exact c3
  · rw [nr 1 (by omega)] at y0
    obtain ⟨u, eu, gu⟩ := x2 y0
    have t11 : ∀ i, i < cnt → mI M' (p + 11) i = mI M (p + 11) i := fun i hi => by
      by_cases yb : b = 11
      · have := h11 yb y0
        rw [← yb, ib, if_neg (by omega)]
      · rw [nb _ (by omega)]
    have t12 : ∀ i, i ≤ cnt → mI M' (p + 12) i = mI M (p + 12) i := fun i hi => by
      by_cases yb : b = 12
      · have := h12 yb y0
        rw [← yb, ib, if_neg (by omega)]
      · rw [nb _ (by omega)]
    exact ⟨u, by rw [t12 cnt (Nat.le_refl _)]; exact eu, gu.up (by rw [np]) (nb _ (by omega)) (nb _ (by omega)) t11 t12 (fun b' _ => ⟨by rw [nb _ (by omega)], by rw [nb _ (by omega)]⟩) (fun i _ => ⟨by rw [nO], by rw [nP]⟩)⟩
/-- a branch is counted -/
theorem tx_nb (h : TX M z q w T A B D N C n p O P K Ab Be Cm V F ns sf ef c cnt L) (cy : CY M q p O P V F ns sf ef L cnt ix nbr) (h0 : mI M (q + 1) 3 = 0) (n8 : nbr < 8) (hv : mI M (p + 12) (cnt + 1) = ((v : Nat) : Int)) (b14 : mI M (p + 14) v = ((s : Nat) : Int)) (p14 : PC M O P V F ns ef L' s 1) (b15 : mI M (p + 15) v = ((s' : Nat) : Int)) (p15 : PC M O P V F ns ef L' s' 0) (hLL : L ≤ L') (e1 : M' = mUI M (p + 12) (cnt + 1) ((v : Int) + 1)) : TX M' z q w T A B D N C n p O P K Ab Be Cm V F ns sf ef c cnt L' ∧ CY M' q p O P V F ns sf ef L' cnt ix (nbr + 1) ∧ FI (txS q p O P) M M' ∧ (∀ y, y ≠ p + 12 → mI M' y = mI M y) := by
  obtain ⟨g1, g2, u, v', g3, g4, g5, g6, g7, sg, g8, g9⟩ := cy h0
  have vv : v' = v := by rw [hv] at g4; omega
  subst vv
  obtain ⟨u', g10, -, g11⟩ := g7.2.2.2.2.2.1
  have vb : v' < 480 := by
    rw [g3] at g10
    omega
  obtain ⟨h', fx, nb, ib⟩ := h.up (b := 12) ⟨by omega, by omega⟩ e1 ⟨by omega, by omega⟩ (fun y => absurd y (by omega)) (fun _ _ => by omega)
  have ap := h.1.apart
  have qp := h.1.2.2.2.2.2.1.2.1
  have nO := nb O (by first | (have h1 := ap.2.2.2.1; have h2 := ap.2.1; omega) | omega)
  have nP := nb P (by first | (have h1 := ap.2.2.2.2.1; have h2 := ap.2.2.1; omega) | omega)
  have nr := nb (q + 1) (by omega)
  have np := nb p (by first | (have h1 := qp; omega) | omega)
  refine ⟨h'.any (fun _ => hLL), fun _ => ?_, fx, nb⟩
  have cg : ∀ {s h : Nat}, PC M O P V F ns ef L' s h → PC M' O P V F ns ef L' s h := fun hc => hc.cg (fun i _ => by rw [nO]) (fun i _ => by rw [nP])
  have gg := (g7.longer hLL).up (M' := M') (by rw [np]) (nb _ (by omega)) (nb _ (by omega)) (fun i _ => by rw [nb _ (by omega)]) (fun i hi => by rw [ib, if_neg (by omega)]) (fun b' _ => ⟨by rw [nb _ (by omega)], by rw [nb _ (by omega)]⟩) (fun i _ => ⟨by rw [nO], by rw [nP]⟩)
  refine ⟨g1, g2, u, v' + 1, by rw [ib, if_neg (by omega)]; exact g3, by rw [ib, if_pos rfl]; omega, by omega, by omega, ?_, sg, by rw [nb _ (by omega)]; exact g8, cg (g9.wide (Nat.le_refl _) (Nat.le_refl _) hLL (fun _ _ => ⟨rfl, rfl⟩))⟩
  obtain ⟨k1, k2, k3, k4, k5, ⟨uu, k6, k7, k8⟩, k9⟩ := gg
  refine ⟨k1, k2, k3, k4, k5, ⟨uu, k6, by omega, k8⟩, fun b hb => ?_⟩
  by_cases y : b = v'
  · subst y
    exact ⟨s, s', by rw [nb _ (by omega)]; exact b14, cg p14, by rw [nb _ (by omega)]; exact b15, cg p15⟩
  · exact k9 b (by omega)
/-- a command that has been read -/
def cmQ9 (M0 : mM) (z q w T A B D N C n p O P K Ab Be Cm V F : Nat) (ns : Nat → Int) (sf ef : Nat → Nat) (c : Nat) (x : Int) (M' : mM) : Prop := FI (txS q p O P) M0 M' ∧ ((x = 0 ∧ ∃ L' cnt', nstQ z q w T A B D N C n p O P K Ab Be Cm V F ns sf ef c cnt' L' M') ∨ (x = 1 ∧ ∃ L' cnt' a' : Nat, TX M' z q w T A B D N C n p O P K Ab Be Cm V F ns sf ef c cnt' L' ∧ mI M' p 2 = ((L' : Nat) : Int) ∧ mI M' (q + 1) 2 = ((a' : Nat) : Int) ∧ a' ≤ n ∧ L' ≤ a' ∧ mI M' (q + 1) 5 = 0))
/-- between two branches -/
def cmI (M0 : mM) (z q w T A B D N C n p O P K Ab Be Cm V F : Nat) (ns : Nat → Int) (sf ef : Nat → Nat) (c cnt L ix nbr a : Nat) (M : mM) : Prop := FI (txS q p O P) M0 M ∧ TX M z q w T A B D N C n p O P K Ab Be Cm V F ns sf ef c cnt L ∧ CY M q p O P V F ns sf ef L cnt ix nbr ∧ mI M (q + 1) 2 = ((a : Nat) : Int) ∧ a ≤ n ∧ mI M p 2 = ((L : Nat) : Int) ∧ mI M (q + 1) 5 = 0 ∧ mI M (q + 1) 6 = 0 ∧ ix ≤ 59
end TRO
end
section
/-! The class's reader of texts: commands, the whole. -/
section TRP
variable {G : mG} {d z q w T A B D N C n p O P K Ab Be Cm V F c s s' L L' cnt Bn a d0 V1 F1 nw k e s9 S0 wd ix nbr u v i Ab0 Be0 Cm0 Ab1 Be1 Cm1 : Nat} {M0 M M' M1 M2 : mM} {ns ns' ns1 : Nat → Int} {sf ef sf' ef' : Nat → Nat} {H H1 : Nat → Nat} {S R : Nat → Prop}
/-- behind a branch: it is counted, if no fault is noted -/
theorem s_rc_cnt (f1 : FI (txS q p O P) M0 M) (h : TX M z q w T A B D N C n p O P K Ab Be Cm V F ns sf ef c cnt L) (cy : CY M q p O P V F ns sf ef L cnt ix nbr) (n8 : mI M (q + 1) 3 = 0 → nbr < 8) (a1 : mI M (q + 1) 2 = ((a : Nat) : Int)) (a2 : a ≤ n) (p1 : mI M p 2 = ((L' : Nat) : Int)) (hLL : L ≤ L') (d1 : mI M (q + 1) 5 = 0) (c1 : mI M (q + 1) 6 = 0) (hix : ix ≤ 59) (br : mI M (q + 1) 3 = 0 → ∃ v s s' : Nat, mI M (p + 12) (cnt + 1) = ((v : Nat) : Int) ∧ mI M (p + 14) v = ((s : Nat) : Int) ∧ PC M O P V F ns ef L' s 1 ∧ mI M (p + 15) v = ((s' : Nat) : Int) ∧ PC M O P V F ns ef L' s' 0) : ((mI M (q + 1) 3 = 0) → (mK M p = 6 ∧ mK M (p + 12) = 30 ∧ ((0 : Int) ≤ (ix : Int) + 1 ∧ (ix : Int) + 1 < (mN M (p + 12) : Int)) ∧ ((0 : Int) ≤ (ix : Int) + 1 ∧ (ix : Int) + 1 < (mN M (p + 12) : Int)) ∧ i32 ((mI M (p + 12) (Int.toNat ((ix : Int) + 1))) + 1))) ∧ ∀ M120 : mM, M120 = (if (mI M (q + 1) 3 = 0) then (mUI M (p + 12) (Int.toNat ((ix : Int) + 1)) ((mI M (p + 12) (Int.toNat ((ix : Int) + 1))) + 1)) else M) → ∃ nbr', cmI M0 z q w T A B D N C n p O P K Ab Be Cm V F ns sf ef c cnt L' ix nbr' a M120 ∧ (mI M120 (q + 1) 3 = 0 → nbr' = nbr + 1) := by
  have ap := h.1.apart
  have qp := h.1.2.2.2.2.2.1.2.1
  have q12 : q + 1 ≠ p + 12 := by omega
  have p12 : p ≠ p + 12 := by omega
  clear ap qp
  obtain ⟨k6, -, ⟨-, -, -, -, -, -, -, -, -, kp12, -⟩, ⟨-, -, -, -, -, -, -, -, -, np12, -⟩⟩ := h.tab
  have e12 : Int.toNat ((ix : Int) + 1) = ix + 1 := by omega
  rw [np12, e12]
  refine ⟨fun y => ⟨k6, kp12, by omega, by omega, ?_⟩, fun M120 e120 => ?_⟩
  · obtain ⟨g1, g2, u, v, g3, g4, g5, g6, g7, -⟩ := cy y
    obtain ⟨u', g10, -, g11⟩ := g7.2.2.2.2.2.1
    have vb : v ≤ 480 := by
      rw [g3] at g10
      omega
    rw [g1, g4]
    exact ⟨by omega, by omega⟩
  · by_cases y : mI M (q + 1) 3 = 0
    · rw [if_pos y] at e120
      obtain ⟨v, s, s', b1, b2, b3, b4, b5⟩ := br y
      have g1 := (cy y).1
      rw [g1, b1] at e120
      obtain ⟨h2, cy2, fx, nb⟩ := tx_nb h cy y (n8 y) b1 b2 b3 b4 b5 hLL e120
      have nr := nb (q + 1) q12
      exact ⟨nbr + 1, ⟨f1.trans fx, h2, cy2, by rw [nr]; exact a1, a2, by rw [nb p p12]; exact p1, by rw [nr]; exact d1, by rw [nr]; exact c1, hix⟩, fun _ => rfl⟩
    · rw [if_neg y] at e120
      subst e120
      exact ⟨nbr, ⟨f1, h.any (fun u => absurd u y), fun u => absurd u y, a1, a2, p1, d1, c1, hix⟩, fun u => absurd u y⟩
end TRP
end
section
/-! The class's reader of texts: readCommand. -/
section TRQ
variable {G : mG} {d z q w T A B D N C n p O P K Ab Be Cm V F c s s' L L' cnt Bn a d0 V1 F1 nw k e s9 S0 wd ix nbr u v i Ab0 Be0 Cm0 Ab1 Be1 Cm1 : Nat} {M0 M M' M1 M2 : mM} {ns ns' ns1 : Nat → Int} {sf ef sf' ef' : Nat → Nat} {H H1 : Nat → Nat} {S R : Nat → Prop}
end TRQ
end
end
