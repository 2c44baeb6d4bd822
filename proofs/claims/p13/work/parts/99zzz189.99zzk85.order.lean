/-! The Scales: two fractions are compared; a fraction is brought to least terms. -/
section NAX
variable {G : mG} {d b c z n m w S x y B u g a R cn f f' s : Nat} {M M0 M' M1 M2 M3 : mM} {L : List Nat} {W : Nat → Nat} {T T' I I' : Nat → Prop} {r r' : Prop} {sh : Int}
def Tor (z x : Nat) : Prop := x = z + 9 ∨ x = z + 11
/-- what comparing works with -/
def Ors (L : List Nat) (W : Nat → Nat) (z f f' : Nat) (M : mM) : Prop := mOk M ∧ NF L W M ∧ SK L M z ∧ FrL L M f ∧ FrL L M f'
theorem Ors.nl (h : Ors L W z f f' M) (k : NL L W (Tor z) (fun _ => False) False z M M') : Ors L W z f f' M' := by
  obtain ⟨h1, h2, h3, h4, h5⟩ := h
  exact ⟨k.ok, k.nf, k.sk h2 h3, k.frl h2 h4, k.frl h2 h5⟩
theorem Ors.tor (h : Ors L W z f f' M) : ∀ t, Tor z t → t ∈ L := fun t ht => by
  have k := h.2.2.1.2.2.2.2.2.1
  rcases ht with e | e
  · rw [e]; exact k.2.2.2.2.1
  · rw [e]; exact k.2.2.2.2.2.1
theorem Ors.st (h : Ors L W z f f' M) (ha : Tor z a) (c : NC L W (fun x => x = a) M M') : NL L W (Tor z) (fun _ => False) False z M M' ∧ Ors L W z f f' M' := by
  have n : NL L W (Tor z) (fun _ => False) False z M M' := (c.nl (I := fun _ => False) (r := False) noI h.2.2.1.z9).mono h.2.1 (fun t ht => by rw [ht]; exact ha) h.tor (fun _ u => u) noI (fun u => u)
  exact ⟨n, h.nl n⟩
theorem Ors.pl (h : Ors L W z f f' M) : (mK M z = 9 ∧ mK M f = 11 ∧ mK M f' = 11) ∧ (mR M z 4 = z + 9 ∧ mR M z 5 = z + 11) ∧ ((mR M f 0 = f + 1 ∧ mR M f 1 = f + 3) ∧ (mR M f' 0 = f' + 1 ∧ mR M f' 1 = f' + 3)) ∧ (z + 9 ∈ L ∧ z + 11 ∈ L ∧ f + 1 ∈ L ∧ f + 3 ∈ L ∧ f' + 1 ∈ L ∧ f' + 3 ∈ L) := by
  obtain ⟨-, -, ⟨k1, ⟨-, -, -, -, k4, k5, -⟩, -, -, -, ⟨-, -, -, -, p1, p2, -⟩, -⟩, ⟨⟨q1, q2, -⟩, q3, q4⟩, ⟨⟨r1, r2, -⟩, r3, r4⟩⟩ := h
  exact ⟨⟨k1.1, q1, r1⟩, ⟨k4, k5⟩, ⟨q2, r2⟩, p1, p2, q3, q4, r3, r4⟩
/-- numbers of at most s limbs, small factors -/
def Osz (M : mM) (f s : Nat) : Prop := sz M (f + 1) ≤ s ∧ sz M (f + 3) ≤ s ∧ (1 ≤ mI M f 2 ∧ mI M f 2 < 1073741824)
theorem mul_sz {v t : Int} (hv : 0 ≤ v ∧ v < 2 ^ (30 * s)) (ht : 1 ≤ t ∧ t < 1073741824) : 0 ≤ t * v ∧ t * v < 2 ^ (30 * (s + 1)) := by
  rw [p30, Int.mul_comm]
  have h1 : v * t ≤ v * 1073741824 := Int.mul_le_mul_of_nonneg_left (by omega) hv.1
  have h2 := Int.mul_nonneg hv.1 (show 0 ≤ t by omega)
  omega
/-- from the two products on -/
theorem s_orEnd (h : Ors L W z f f' M) (t1 : 1 ≤ mI M f' 2 ∧ mI M f' 2 < 1073741824) (t2 : 1 ≤ mI M f 2 ∧ mI M f 2 < 1073741824) (s1 : sz M (z + 9) + 1 ≤ W (z + 9)) (s2 : sz M (z + 11) + 1 ≤ W (z + 11)) : mK M z = 9 ∧ mK M f' = 11 ∧ mK M (mR M z 4) = 10 ∧ Cv G y_Na_multiply (d + 4) [vr (mR M z 4), vi (mI M f' 2)] M (fun M26 => mOk M26 ∧ (mK M26 z = 9 ∧ mK M26 f = 11 ∧ mK M26 (mR M26 z 5) = 10 ∧ Cv G y_Na_multiply (d + 4) [vr (mR M26 z 5), vi (mI M26 f 2)] M26 (fun M32 => mOk M32 ∧ (mK M32 z = 9 ∧ Ci G y_Na_order (d + 4) [vr (mR M32 z 4), vr (mR M32 z 5)] M32 (fun x37 M36 => i32 x37 ∧ mOk M36 ∧ (NL L W (Tor z) (fun _ => False) False z M M36 ∧ (x37 = -1 ∨ x37 = 0 ∨ x37 = 1) ∧ orQ (mI M f' 2 * nv M (z + 9)) (mI M f 2 * nv M (z + 11)) x37)))))) := by
  obtain ⟨⟨k1, k2, k3⟩, ⟨r4, r5⟩, -, m9, m11, mf1, mf3, mg1, mg3⟩ := h.pl
  rw [r4]
  refine ⟨k1, k3, h.2.1.kd m9, (f_multiply (d := d + 2) t1 h.1 h.2.1 m9 s1).mono (fun M26 k => ?_)⟩
  obtain ⟨c1, v1⟩ := k
  obtain ⟨n1, H1⟩ := h.st (Or.inl rfl) c1
  obtain ⟨⟨k1, k2, k3⟩, ⟨r4, r5⟩, -⟩ := H1.pl
  have e2 : mI M26 f = mI M f := (n1.frp h.2.1 h.2.2.2.1.1).2 (fun e => e)
  have z11 := (c1.num h.2.1 m11 (nez (by decide))).2.2.2.1
  have z11v := (c1.num h.2.1 m11 (nez (by decide))).2.2.2.2.1
  rw [r5, e2]
  refine ⟨H1.1, k1, k2, H1.2.1.kd m11, (f_multiply (d := d + 2) t2 H1.1 H1.2.1 m11 (by rw [z11]; exact s2)).mono (fun M32 k => ?_)⟩
  obtain ⟨c2, v2⟩ := k
  obtain ⟨n2, H2⟩ := H1.st (Or.inr rfl) c2
  obtain ⟨⟨k1, k2, k3⟩, ⟨r4, r5⟩, -⟩ := H2.pl
  rw [r4, r5]
  refine ⟨H2.1, k1, (f_order (d := d + 4) H2.1 H2.2.1 m9 m11).mono (fun x M36 k => ?_)⟩
  obtain ⟨e, ox⟩ := k
  rw [e]
  have xx : x = -1 ∨ x = 0 ∨ x = 1 := by unfold orQ at ox; omega
  rw [c2.v H1.2.1 m9 (nez (by decide)), v1, v2, z11v] at ox
  exact ⟨by rcases xx with e | e | e <;> rw [e] <;> exact ⟨by decide, by decide⟩, H2.1, n1.trans n2, xx, ox⟩
/-- two fractions are compared -/
theorem f_Sc_orderX (h : Ors L W z f f' M) (o1 : Osz M f s) (o2 : Osz M f' s) (nf : ¬ Tor z (f + 1) ∧ ¬ Tor z (f + 3)) (nf' : ¬ Tor z (f' + 1) ∧ ¬ Tor z (f' + 3)) (w9 : 2 * s + 1 ≤ W (z + 9)) (w11 : 2 * s + 1 ≤ W (z + 11)) : Ci G y_Sc_order (d + 5) [vr z, vr f, vr f'] M (fun x M' => NL L W (Tor z) (fun _ => False) False z M M' ∧ (x = -1 ∨ x = 0 ∨ x = 1) ∧ (0 < nv M (f + 3) → 0 < nv M (f' + 3) → orR (fq9 M f) (fq9 M f') x)) := by
  obtain ⟨⟨k1, k2, k3⟩, ⟨r4, r5⟩, ⟨⟨f0, f1⟩, g0, g1⟩, m9, m11, mf1, mf3, mg1, mg3⟩ := h.pl
  obtain ⟨a1, a2, a3⟩ := o1
  obtain ⟨b1, b2, b3⟩ := o2
  have e9f1 : z + 9 ≠ f + 1 := fun e => nf.1 (Or.inl e.symm)
  have e11f3 : z + 11 ≠ f + 3 := fun e => nf.2 (Or.inr e.symm)
  have e9g3 : z + 9 ≠ f' + 3 := fun e => nf'.2 (Or.inl e.symm)
  have e11g1 : z + 11 ≠ f' + 1 := fun e => nf'.1 (Or.inr e.symm)
  have hF := h.2.1
  have fin : ∀ {x : Int}, orQ (nv M (f + 1) * (mI M f' 2 * nv M (f' + 3))) (nv M (f' + 1) * (mI M f 2 * nv M (f + 3))) x → 0 < nv M (f + 3) → 0 < nv M (f' + 3) → orR (fq9 M f) (fq9 M f') x := fun o d1 d2 => by
    have p1 := Int.mul_pos (show 0 < mI M f 2 by omega) d1
    have p2 := Int.mul_pos (show 0 < mI M f' 2 by omega) d2
    exact or_rat p1 p2 (fq_mul p1) (fq_mul p2) o
  refine k_Sc_order h.1 ?_
  rw [f1, g1]
  refine ⟨k2, k3, (f_order (d := d + 4) h.1 hF mf3 mg3).mono (fun x4 M3 k => ?_)⟩
  obtain ⟨e3, ox⟩ := k
  rw [e3, r4]
  refine ⟨by unfold orQ at ox; exact ⟨by omega, by omega⟩, h.1, fun x0 => ⟨k1, k2, hF.kd m9, ?_⟩, fun _ => ⟨k1, k2, k3, hF.kd m9, ?_⟩⟩
  · rw [f0]
    refine (f_put1 (d := d + 3) h.1 hF m9 mf1 e9f1 (by omega)).mono (fun M14 k => ?_)
    obtain ⟨c1, v1⟩ := k
    obtain ⟨n1, H1⟩ := h.st (Or.inl rfl) c1
    obtain ⟨⟨k1, k2, k3⟩, ⟨r4, r5⟩, ⟨⟨f0, f1⟩, g0, g1⟩, -⟩ := H1.pl
    have s9 : sz M14 (z + 9) ≤ s := H1.2.1.szv m9 (by rw [v1]; exact Int.lt_of_lt_of_le (hF.vlt mf1) (p30m a1))
    have sg := (n1.num hF mg1 nf'.1).2
    rw [r5, g0]
    refine ⟨H1.1, k1, k3, H1.2.1.kd m11, (f_put1 (d := d + 3) H1.1 H1.2.1 m11 mg1 e11g1 (by omega)).mono (fun M20 k => ?_)⟩
    obtain ⟨c2, v2⟩ := k
    obtain ⟨n2, H2⟩ := H1.st (Or.inr rfl) c2
    have N2 := n1.trans n2
    have s11 : sz M20 (z + 11) ≤ s := H2.2.1.szv m11 (by rw [v2, sg.2]; exact Int.lt_of_lt_of_le (hF.vlt mg1) (p30m b1))
    have s9' := (c2.num H1.2.1 m9 (nez (by decide))).2.2.2.1
    have ef := (N2.frp hF h.2.2.2.1.1).2 (fun e => e)
    have eg := (N2.frp hF h.2.2.2.2.1).2 (fun e => e)
    obtain ⟨q1, q2, q3, q4⟩ := s_orEnd (G := G) (d := d) H2 (by rw [eg]; exact b3) (by rw [ef]; exact a3) (by omega) (by omega)
    exact ⟨H2.1, q1, q2, q3, q4.mono (fun M26 ⟨p1, p2, p3, p4, p5⟩ => ⟨p1, p2, p3, p4, p5.mono (fun M32 ⟨p6, p7, p8⟩ => ⟨p6, p7, p8.mono (fun x M36 ⟨p9, p10, p11, p12, p13⟩ => ⟨p9, p10, N2.trans p11, p12, fun d1 d2 => fin (by
      have ed : nv M (f' + 3) = nv M (f + 3) := by
        unfold orQ at ox
        omega
      rw [eg, ef, v2, sg.2, c2.v H1.2.1 m9 (nez (by decide)), v1] at p13
      have o := orQ_mul d1 p13
      rw [ed]
      rw [show nv M (f + 1) * (mI M f' 2 * nv M (f + 3)) = mI M f' 2 * nv M (f + 1) * nv M (f + 3) by grind, show nv M (f' + 1) * (mI M f 2 * nv M (f + 3)) = mI M f 2 * nv M (f' + 1) * nv M (f + 3) by grind]
      exact o) d1 d2⟩)⟩)⟩)⟩
  · rw [f0, g1]
    refine (f_putProduct (d := d + 1) h.1 hF m9 mf1 mg3 e9f1 e9g3 (by omega)).mono (fun M14 k => ?_)
    obtain ⟨c1, v1⟩ := k
    obtain ⟨n1, H1⟩ := h.st (Or.inl rfl) c1
    obtain ⟨⟨k1, k2, k3⟩, ⟨r4, r5⟩, ⟨⟨f0, f1⟩, g0, g1⟩, -⟩ := H1.pl
    have s9 : sz M14 (z + 9) ≤ s + s := H1.2.1.szv m9 (by rw [v1]; exact pb ⟨hF.nn0 mf1, Int.lt_of_lt_of_le (hF.vlt mf1) (p30m a1)⟩ ⟨hF.nn0 mg3, Int.lt_of_lt_of_le (hF.vlt mg3) (p30m b2)⟩)
    have sg := (n1.num hF mg1 nf'.1).2
    have sf := (n1.num hF mf3 nf.2).2
    rw [r5, g0, f1]
    refine ⟨H1.1, k1, k3, k2, H1.2.1.kd m11, (f_putProduct (d := d + 1) H1.1 H1.2.1 m11 mg1 mf3 e11g1 e11f3 (by omega)).mono (fun M20 k => ?_)⟩
    obtain ⟨c2, v2⟩ := k
    obtain ⟨n2, H2⟩ := H1.st (Or.inr rfl) c2
    have N2 := n1.trans n2
    have s11 : sz M20 (z + 11) ≤ s + s := H2.2.1.szv m11 (by rw [v2, sg.2, sf.2]; exact pb ⟨hF.nn0 mg1, Int.lt_of_lt_of_le (hF.vlt mg1) (p30m b1)⟩ ⟨hF.nn0 mf3, Int.lt_of_lt_of_le (hF.vlt mf3) (p30m a2)⟩)
    have s9' := (c2.num H1.2.1 m9 (nez (by decide))).2.2.2.1
    have ef := (N2.frp hF h.2.2.2.1.1).2 (fun e => e)
    have eg := (N2.frp hF h.2.2.2.2.1).2 (fun e => e)
    obtain ⟨q1, q2, q3, q4⟩ := s_orEnd (G := G) (d := d) H2 (by rw [eg]; exact b3) (by rw [ef]; exact a3) (by omega) (by omega)
    exact ⟨H2.1, q1, q2, q3, q4.mono (fun M26 ⟨p1, p2, p3, p4, p5⟩ => ⟨p1, p2, p3, p4, p5.mono (fun M32 ⟨p6, p7, p8⟩ => ⟨p6, p7, p8.mono (fun x M36 ⟨p9, p10, p11, p12, p13⟩ => ⟨p9, p10, N2.trans p11, p12, fun d1 d2 => fin (by
      rw [eg, ef, v2, sg.2, sf.2, c2.v H1.2.1 m9 (nez (by decide)), v1] at p13
      rw [show nv M (f + 1) * (mI M f' 2 * nv M (f' + 3)) = mI M f' 2 * (nv M (f + 1) * nv M (f' + 3)) by grind, show nv M (f' + 1) * (mI M f 2 * nv M (f + 3)) = mI M f 2 * (nv M (f' + 1) * nv M (f + 3)) by grind]
      exact p13) d1 d2⟩)⟩)⟩)⟩
theorem f_Sc_order (h : Ors L W z f f' M) (o1 : Osz M f s) (o2 : Osz M f' s) (nf : ¬ Tor z (f + 1) ∧ ¬ Tor z (f + 3)) (nf' : ¬ Tor z (f' + 1) ∧ ¬ Tor z (f' + 3)) (w9 : 2 * s + 1 ≤ W (z + 9)) (w11 : 2 * s + 1 ≤ W (z + 11)) : Ci G y_Sc_order (d + 5) [vr z, vr f, vr f'] M (fun x M' => NL L W (Tor z) (fun _ => False) False z M M' ∧ (x = -1 ∨ x = 0 ∨ x = 1)) := (f_Sc_orderX h o1 o2 nf nf' w9 w11).mono (fun x M' k => ⟨k.1, k.2.1⟩)
end NAX
