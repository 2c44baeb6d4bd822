section
/-! The Scales: least terms, fitting, whole parts. -/
section NAY
variable {G : mG} {d b c z n m w S x y B u g a R cn f s : Nat} {M M0 M' M1 M2 M3 : mM} {L : List Nat} {W : Nat → Nat} {T T' I I' : Nat → Prop} {sh t : Int}
def Tre (z f x : Nat) : Prop := T4 z x ∨ x = f + 1 ∨ x = f + 3
def Rds (L : List Nat) (W : Nat → Nat) (z f : Nat) (M : mM) : Prop := mOk M ∧ NF L W M ∧ SK L M z ∧ FrL L M f
theorem Rds.tre (h : Rds L W z f M) : ∀ t, Tre z f t → t ∈ L := fun t ht => by
  rcases ht with e | e | e
  · exact h.2.2.1.t4 t e
  · rw [e]; exact h.2.2.2.2.1
  · rw [e]; exact h.2.2.2.2.2
theorem Rds.iw (h : Rds L W z f M) : ∀ x, (fun x => x = f) x → x < mZ M ∧ mK M x = 11 := fun x u => by
  rw [u]
  exact ⟨h.2.2.2.1.2.2, h.2.2.2.1.1⟩
theorem Rds.nl (h : Rds L W z f M) (k : NL L W (Tre z f) (fun x => x = f) False z M M') : Rds L W z f M' := ⟨k.ok, k.nf, k.sk h.2.1 h.2.2.1, k.frl h.2.1 h.2.2.2⟩
theorem Rds.st (h : Rds L W z f M) (ha : Tre z f a) (c : NC L W (fun x => x = a) M M') : NL L W (Tre z f) (fun x => x = f) False z M M' ∧ Rds L W z f M' := by
  have n : NL L W (Tre z f) (fun x => x = f) False z M M' := (c.nl (I := fun x => x = f) (r := False) h.iw h.2.2.1.z9).mono h.2.1 (fun t ht => by rw [ht]; exact ha) h.tre (fun _ u => u) h.iw (fun u => u)
  exact ⟨n, h.nl n⟩
theorem Rds.st3 (h : Rds L W z f M) (ha : Tre z f a ∧ Tre z f b ∧ Tre z f c) (k : NC L W (fun x => x = a ∨ x = b ∨ x = c) M M') : NL L W (Tre z f) (fun x => x = f) False z M M' ∧ Rds L W z f M' := by
  have n : NL L W (Tre z f) (fun x => x = f) False z M M' := (k.nl (I := fun x => x = f) (r := False) h.iw h.2.2.1.z9).mono h.2.1 (fun t ht => by
    rcases ht with u | u | u
    · rw [u]; exact ha.1
    · rw [u]; exact ha.2.1
    · rw [u]; exact ha.2.2) h.tre (fun _ u => u) h.iw (fun u => u)
  exact ⟨n, h.nl n⟩
theorem Rds.pl (h : Rds L W z f M) : (mK M z = 9 ∧ mK M f = 11) ∧ (mR M z 2 = z + 5 ∧ mR M z 3 = z + 7) ∧ (mR M f 0 = f + 1 ∧ mR M f 1 = f + 3) ∧ (z + 5 ∈ L ∧ z + 7 ∈ L ∧ f + 1 ∈ L ∧ f + 3 ∈ L) := by
  obtain ⟨-, -, ⟨k1, ⟨-, -, k2, k3, -⟩, -, -, -, ⟨-, -, p1, p2, -⟩, -⟩, ⟨⟨q1, q2, -⟩, q3, q4⟩⟩ := h
  exact ⟨⟨k1.1, q1⟩, ⟨k2, k3⟩, q2, p1, p2, q3, q4⟩
/-- both numbers are divided -/
theorem s_rdDiv {Q : mM → Prop} {r : Nat} {A V q : Int} (h : Rds L W z f M) (er : r = z + 1 ∨ r = z + 3) (nf : ¬ T4 z (f + 1) ∧ ¬ T4 z (f + 3)) (hA : nv M (f + 1) = A) (hV : nv M (f + 3) = V) (hq : nv M r = q) (q0 : 0 < q) (d1 : q ∣ A) (d2 : q ∣ V) (A0 : 0 < A) (s1 : sz M (f + 1) + 2 ≤ s) (s2 : sz M (f + 3) + 2 ≤ s) (w1 : s ≤ W (f + 1)) (w3 : s ≤ W (f + 3)) (w5 : s ≤ W (z + 5)) (w7 : s ≤ W (z + 7))
    (hQ : ∀ M' Q1 Q2, NL L W (Tre z f) (fun x => x = f) False z M M' → mI M' f 2 = mI M f 2 → nv M' (f + 1) = Q1 → nv M' (f + 3) = Q2 → A = q * Q1 → V = q * Q2 → 0 ≤ Q1 → 0 ≤ Q2 → Q M') : mK M f = 11 ∧ mK M z = 9 ∧ mK M (mR M f 0) = 10 ∧ Cv G y_Na_divide (d + 4) [vr (mR M f 0), vr r, vr (mR M z 2), vr (mR M z 3)] M (fun M32 => mOk M32 ∧ (mK M32 f = 11 ∧ mK M32 z = 9 ∧ mK M32 (mR M32 f 0) = 10 ∧ Cv G y_Na_put1 (d + 4) [vr (mR M32 f 0), vr (mR M32 z 2)] M32 (fun M38 => mOk M38 ∧ (mK M38 f = 11 ∧ mK M38 z = 9 ∧ mK M38 (mR M38 f 1) = 10 ∧ Cv G y_Na_divide (d + 4) [vr (mR M38 f 1), vr r, vr (mR M38 z 2), vr (mR M38 z 3)] M38 (fun M44 => mOk M44 ∧ (mK M44 f = 11 ∧ mK M44 z = 9 ∧ mK M44 (mR M44 f 1) = 10 ∧ Cv G y_Na_put1 (d + 4) [vr (mR M44 f 1), vr (mR M44 z 2)] M44 (fun M50 => mOk M50 ∧ (Q M50)))))))) := by
  obtain ⟨⟨k1, k2⟩, ⟨r2, r3⟩, ⟨f0, f1⟩, m5, m7, mf1, mf3⟩ := h.pl
  obtain ⟨⟨rn5, rn7, -, -⟩, -⟩ := r_n er
  have tr : T4 z r := er.elim Or.inl (fun e => Or.inr (Or.inl e))
  have mr : r ∈ L := h.2.2.1.t4 r tr
  have rf1 : r ≠ f + 1 := fun e => nf.1 (by rw [← e]; exact tr)
  have rf3 : r ≠ f + 3 := fun e => nf.2 (by rw [← e]; exact tr)
  have t5 : Tre z f (z + 5) := Or.inl (Or.inr (Or.inr (Or.inl rfl)))
  have t7 : Tre z f (z + 7) := Or.inl (Or.inr (Or.inr (Or.inr rfl)))
  have f15 : f + 1 ≠ z + 5 := fun e => nf.1 (Or.inr (Or.inr (Or.inl e)))
  have f17 : f + 1 ≠ z + 7 := fun e => nf.1 (Or.inr (Or.inr (Or.inr e)))
  have f35 : f + 3 ≠ z + 5 := fun e => nf.2 (Or.inr (Or.inr (Or.inl e)))
  have f37 : f + 3 ≠ z + 7 := fun e => nf.2 (Or.inr (Or.inr (Or.inr e)))
  have f13 : f + 3 ≠ f + 1 := nez (by decide)
  have hF := h.2.1
  have qV := Int.le_of_dvd A0 d1
  have sr : sz M r ≤ sz M (f + 1) := hF.szm hF mr mf1 (by rw [hq, hA]; exact qV)
  rw [f0, r2, r3]
  refine ⟨k2, k1, hF.kd mf1, (f_divide (d := d + 1) h.1 hF mf1 mr m5 m7 (fun e => rf1 e.symm) f15 f17 rn5 rn7 (nez (by decide)) (by rw [hq]; exact q0) (by omega) (by omega) (by omega)).mono (fun M32 g => ?_)⟩
  obtain ⟨c1, v1, l1⟩ := g
  obtain ⟨n1, H1⟩ := h.st3 ⟨Or.inr (Or.inl rfl), t5, t7⟩ c1
  have F1 := H1.2.1
  rw [hA, hq] at v1
  rw [hq] at l1
  have Q1n := F1.nn0 m5
  have EA := dv_ex q0 d1 v1 ⟨F1.nn0 mf1, l1⟩
  have R1 := ((c1.num hF mr (fun e => e.elim rf1 (fun e => e.elim rn5 rn7))).2.2.2.2.1).trans hq
  have N3 := (c1.num hF mf3 (fun e => e.elim f13 (fun e => e.elim f35 f37))).2.2.2
  have sq1 : sz M32 (z + 5) ≤ sz M (f + 1) := F1.szm hF m5 mf1 (by
    rw [hA, EA]
    have := Int.mul_le_mul_of_nonneg_right (show 1 ≤ q by omega) Q1n
    omega)
  obtain ⟨⟨k1, k2⟩, ⟨r2, r3⟩, ⟨f0, f1⟩, -⟩ := H1.pl
  rw [f0, r2]
  refine ⟨H1.1, k2, k1, F1.kd mf1, (f_put1 (d := d + 3) H1.1 F1 mf1 m5 f15 (by omega)).mono (fun M38 g => ?_)⟩
  obtain ⟨c2, v2⟩ := g
  obtain ⟨n2, H2⟩ := H1.st (Or.inr (Or.inl rfl)) c2
  have F2 := H2.2.1
  have R2 := (c2.v F1 mr rf1).trans R1
  have V2 := (c2.num F1 mf3 f13).2.2.2
  have V2' := (V2.2.1.trans N3.2.1).trans hV
  have sr2 : sz M38 r ≤ sz M (f + 1) := F2.szm hF mr mf1 (by rw [R2, hA]; exact qV)
  obtain ⟨⟨k1, k2⟩, ⟨r2, r3⟩, ⟨f0, f1⟩, -⟩ := H2.pl
  rw [f1, r2, r3]
  refine ⟨H2.1, k2, k1, F2.kd mf3, (f_divide (d := d + 1) H2.1 F2 mf3 mr m5 m7 (fun e => rf3 e.symm) f35 f37 rn5 rn7 (nez (by decide)) (by rw [R2]; exact q0) (by omega) (by omega) (by omega)).mono (fun M44 g => ?_)⟩
  obtain ⟨c3, v3, l3⟩ := g
  obtain ⟨n3, H3⟩ := H2.st3 ⟨Or.inr (Or.inr rfl), t5, t7⟩ c3
  have F3 := H3.2.1
  rw [V2', R2] at v3
  rw [R2] at l3
  have Q2n := F3.nn0 m5
  have EV := dv_ex q0 d2 v3 ⟨F3.nn0 mf3, l3⟩
  have A3 := ((c3.num F2 mf1 (fun e => e.elim (fun e => f13 e.symm) (fun e => e.elim f15 f17))).2.2.2.2.1).trans v2
  have sq2 : sz M44 (z + 5) ≤ sz M38 (f + 3) := F3.szm F2 m5 mf3 (by
    rw [V2', EV]
    have := Int.mul_le_mul_of_nonneg_right (show 1 ≤ q by omega) Q2n
    omega)
  obtain ⟨⟨k1, k2⟩, ⟨r2, r3⟩, ⟨f0, f1⟩, -⟩ := H3.pl
  rw [f1, r2]
  refine ⟨H3.1, k2, k1, F3.kd mf3, (f_put1 (d := d + 3) H3.1 F3 mf3 m5 f35 (by omega)).mono (fun M50 g => ?_)⟩
  obtain ⟨c4, v4⟩ := g
  obtain ⟨n4, H4⟩ := H3.st (Or.inr (Or.inr rfl)) c4
  have ti : ∀ {M M' : mM} {T : Nat → Prop}, FrL L M f → NF L W M → z < mZ M ∧ mK M z = 9 → NC L W T M M' → mI M' f = mI M f := fun hf hF hz c => ((c.nl (I := fun _ => False) (r := False) noI hz).frp hF hf.1).2 (fun e => e)
  refine ⟨H4.1, hQ M50 (nv M32 (z + 5)) (nv M44 (z + 5)) (((n1.trans n2).trans n3).trans n4) ?_ ((c4.v F3 mf1 (fun e => f13 e.symm)).trans A3) v4 EA EV Q1n Q2n⟩
  rw [ti H3.2.2.2 F3 H3.2.2.1.z9 c4, ti H2.2.2.2 F2 H2.2.2.1.z9 c3, ti H1.2.2.2 F1 H1.2.2.1.z9 c2, ti h.2.2.2 hF h.2.2.1.z9 c1]
/-- what least terms leave behind -/
def rdQ2 (L : List Nat) (W : Nat → Nat) (z f : Nat) (t A V : Int) (M M' : mM) : Prop := NL L W (Tre z f) (fun x => x = f) False z M M' ∧ mI M' f 2 = 1 ∧ (0 < V → 0 < nv M' (f + 3)) ∧ nv M' (f + 1) ≤ A ∧ (0 < V → nv M' (f + 3) ≤ t * V) ∧ (A ≤ t * V → nv M' (f + 1) ≤ nv M' (f + 3)) ∧ (nv M' (f + 1) * (t * V) = A * nv M' (f + 3) ∧ (0 < V → Int.gcd (nv M' (f + 1)) (nv M' (f + 3)) = 1))
/-- what is left over when the greatest divisor is gone -/
theorem gcd_left {A V q Q1 Q2 : Int} (q0 : 0 < q) (e1 : A = q * Q1) (e2 : V = q * Q2) (gr : ∀ g : Int, g ∣ A → g ∣ V → g ∣ q) : Int.gcd Q1 Q2 = 1 := by
  have d1 : q * (Int.gcd Q1 Q2 : Int) ∣ A := by rw [e1]; exact Int.mul_dvd_mul (Int.dvd_refl q) (Int.gcd_dvd_left ..)
  have d2 : q * (Int.gcd Q1 Q2 : Int) ∣ V := by rw [e2]; exact Int.mul_dvd_mul (Int.dvd_refl q) (Int.gcd_dvd_right ..)
  obtain ⟨c, hc⟩ := gr _ d1 d2
  have h1 : q * 1 = q * ((Int.gcd Q1 Q2 : Int) * c) := by rw [Int.mul_one, ← Int.mul_assoc]; exact hc
  have h2 : 1 = (Int.gcd Q1 Q2 : Int) * c := Int.eq_of_mul_eq_mul_left (by omega) h1
  have h3 : (Int.gcd Q1 Q2 : Int) ∣ 1 := ⟨c, h2⟩
  have h4 := Int.le_of_dvd (by decide) h3
  have h5 : (Int.gcd Q1 Q2 : Int) ≠ 0 := fun z => by rw [z, Int.zero_mul] at h2; exact absurd h2 (by decide)
  omega
theorem f_reduce (h : Rds L W z f M) (nf : ¬ T4 z (f + 1) ∧ ¬ T4 z (f + 3)) (ht : mI M f 2 = t) (t1 : 1 ≤ t ∧ t < 1073741824) (s1 : sz M (f + 1) ≤ s) (s3 : sz M (f + 3) ≤ s) (hs : s ≤ 15000) (hW : ∀ x, Tre z f x → s + 3 ≤ W x) : Cv G y_Sc_reduce (d + 5) [vr z, vr f] M (rdQ2 L W z f t (nv M (f + 1)) (nv M (f + 3)) M) := by
  obtain ⟨⟨k1, k2⟩, ⟨r2, r3⟩, ⟨f0, f1⟩, m5, m7, mf1, mf3⟩ := h.pl
  have hF := h.2.1
  have w1 := hW _ (Or.inr (Or.inl rfl))
  have w3 := hW _ (Or.inr (Or.inr rfl))
  have f13 : f + 3 ≠ f + 1 := nez (by decide)
  have A0 := hF.nn0 mf1
  refine k_Sc_reduce h.1 ?_
  rw [f1, ht]
  refine ⟨k2, hF.kd mf3, (f_multiply (d := d + 2) t1 h.1 hF mf3 (by omega)).mono (fun M3 k => ?_)⟩
  obtain ⟨c1, v1⟩ := k
  obtain ⟨n1, H1⟩ := h.st (Or.inr (Or.inr rfl)) c1
  have a1 := (c1.num hF mf1 (fun e => f13 e.symm)).2.2.2
  refine ⟨c1.ok, H1.2.2.2.1.1, fun M7 e7 => ?_⟩
  obtain ⟨n2, t2, vv⟩ := nl_times (T := Tre z f) (I := fun x => x = f) (r := False) (z := z) c1.ok H1.2.1 H1.2.2.2 H1.2.2.1.z9 ⟨by decide, by decide⟩ e7 h.tre rfl H1.iw
  have H2 := H1.nl n2
  have N2 := n1.trans n2
  have F2 := H2.2.1
  have A2 : nv M7 (f + 1) = nv M (f + 1) := by rw [vv _ mf1, a1.2.1]
  have V2 : nv M7 (f + 3) = t * nv M (f + 3) := by rw [vv _ mf3, v1]
  have Vn := hF.nn0 mf3
  have Vp : 0 < nv M (f + 3) → 0 < t * nv M (f + 3) := fun V0 => Int.mul_pos (by omega) V0
  obtain ⟨⟨k1, k2⟩, ⟨r2, r3⟩, ⟨f0, f1⟩, -⟩ := H2.pl
  rw [f0, f1, (F2.nt mf1).2.1]
  refine ⟨F2.kd mf1, fun y => ⟨F2.kd mf3, (f_put0 (d := d + 4) ⟨by decide, by decide⟩ H2.1 F2 mf3).mono (fun M13 k => ?_)⟩, fun y => ⟨k1, ?_⟩⟩
  · obtain ⟨c3, v3⟩ := k
    obtain ⟨n3, H3⟩ := H2.st (Or.inr (Or.inr rfl)) c3
    have z0 : nv M7 (f + 1) = 0 := (F2.sz0 mf1).1 (by omega)
    have z1 := (c3.v F2 mf1 (fun e => f13 e.symm)).trans z0
    have ti : mI M13 f = mI M7 f := ((c3.nl (I := fun _ => False) (r := False) noI H2.2.2.1.z9).frp F2 H2.2.2.2.1).2 (fun e => e)
    exact ⟨c3.ok, N2.trans n3, by rw [ti]; exact t2, fun _ => by rw [v3]; decide, by rw [z1]; exact A0, fun V0 => by rw [v3]; exact Vp V0, fun _ => by rw [z1, v3]; decide, by rw [z1, ← A2, z0, Int.zero_mul, Int.zero_mul], fun _ => by rw [z1, v3]; decide⟩
  · have Ap : 0 < nv M (f + 1) := Classical.byContradiction (fun u => y (by
      have := (F2.sz0 mf1).2 (by rw [A2]; omega)
      omega))
    have sv : sz M7 (f + 3) ≤ s + 1 := F2.szv mf3 (by rw [V2]; exact (mul_sz ⟨Vn, Int.lt_of_lt_of_le (hF.vlt mf3) (p30m s3)⟩ t1).2)
    have sa : sz M7 (f + 1) ≤ s := F2.szv mf1 (by rw [A2]; exact Int.lt_of_lt_of_le (hF.vlt mf1) (p30m s1))
    have h1 := hW (z + 1) (Or.inl (Or.inl rfl))
    have h3 := hW (z + 3) (Or.inl (Or.inr (Or.inl rfl)))
    have h5 := hW (z + 5) (Or.inl (Or.inr (Or.inr (Or.inl rfl))))
    have h7 := hW (z + 7) (Or.inl (Or.inr (Or.inr (Or.inr rfl))))
    refine (f_common (d := d) (S := s + 1) H2.1 F2 H2.2.2.1 mf1 mf3 nf.1 nf.2 (Or.inl (by rw [A2]; exact Ap)) (by omega) sv (by omega) ⟨h1, h3, h5, h7⟩).mono (fun r M17 k => ?_)
    obtain ⟨er, N17, q0, d1, d2, gr⟩ := k
    have n3 : NL L W (Tre z f) (fun x => x = f) False z M7 M17 := N17.mono F2 (fun t ht => Or.inl ht) h.tre (fun _ e => e.elim) H2.iw (fun e => e)
    have H3 := H2.nl n3
    have A3 := (N17.num F2 mf1 nf.1).2
    have V3 := (N17.num F2 mf3 nf.2).2
    have t3 : mI M17 f 2 = 1 := by rw [(N17.frp F2 H2.2.2.2.1).2 (fun e => e)]; exact t2
    have mr : r ∈ L := h.2.2.1.t4 r (er.elim Or.inl (fun e => Or.inr (Or.inl e)))
    rw [A2] at A3 d1
    rw [V2] at V3 d2
    rw [A2, V2] at gr
    refine ⟨H3.1, H3.2.1.kd mr, (s_Na_isOne (d := d + 4) H3.1 (H3.2.1.nt mr)).mono (fun x22 M21 k => ?_)⟩
    obtain ⟨e21, x01, x1v⟩ := k
    rw [e21]
    refine ⟨m_b32 x01, H3.1, fun _ => ?_, fun x1 => ?_⟩
    · exact s_rdDiv (d := d) (s := s + 3) H3 er nf A3.2 V3.2 rfl q0 d1 d2 Ap (by omega) (by omega) w1 w3 h5 h7 (fun M' Q1 Q2 g1 g2 g3 g4 g5 g6 g7 g8 => by
        have hq : 1 ≤ nv M17 r := q0
        have m1 := Int.mul_le_mul_of_nonneg_right hq g7
        have m2 := Int.mul_le_mul_of_nonneg_right hq g8
        have Q2p : 0 < nv M (f + 3) → 0 < Q2 := fun V0 => Classical.byContradiction (fun u => by
          have V1 := Vp V0
          have : Q2 = 0 := by omega
          rw [this, Int.mul_zero] at g6
          omega)
        refine ⟨(N2.trans n3).trans g1, by rw [g2]; exact t3, fun V0 => by rw [g4]; exact Q2p V0, by rw [g3]; omega, fun _ => by rw [g4]; omega, fun le => ?_, by rw [g3, g4, g6, g5]; grind, fun _ => by rw [g3, g4]; exact gcd_left q0 g5 g6 gr⟩
        rw [g3, g4]
        rw [g5, g6] at le
        exact Int.le_of_mul_le_mul_left le q0)
    · exact ⟨N2.trans n3, t3, fun V0 => by rw [V3.2]; exact Vp V0, by rw [A3.2]; exact Int.le_refl _, fun _ => by rw [V3.2]; exact Int.le_refl _, fun le => by rw [A3.2, V3.2]; exact le, by rw [A3.2, V3.2], fun _ => by
        have q1 : nv M17 r = 1 := x1v x1
        rw [q1] at gr
        rw [A3.2, V3.2]
        exact gcd_left (q := 1) (by decide) (Int.one_mul _).symm (Int.one_mul _).symm gr⟩
end NAY
end
section
/-! The Scales: fitting, whole parts, picking. -/
section NAZ
variable {G : mG} {d b c z n m w S x y B u g a R cn f s : Nat} {M M0 M' M1 M2 M3 : mM} {L : List Nat} {W : Nat → Nat} {T T' I I' : Nat → Prop} {sh t : Int}
/-- what fitting leaves behind -/
def ftQ (L : List Nat) (W : Nat → Nat) (z f : Nat) (t A V : Int) (M : mM) (x : Int) (M' : mM) : Prop := NL L W (Tre z f) (fun x => x = f) False z M M' ∧ mI M' f 2 = 1 ∧ (0 < V → 0 < nv M' (f + 3)) ∧ (x = 0 ∨ x = 1) ∧ (x ≠ 0 → nv M' (f + 3) < 2 ^ 480) ∧ (A ≤ t * V → nv M' (f + 1) ≤ nv M' (f + 3)) ∧ (0 < V → nv M' (f + 1) * (t * V) = A * nv M' (f + 3) ∧ (x = 0 → ¬ ft9 ((A : Rat) * ((t * V : Int) : Rat)⁻¹)))
theorem s_ft74 {A V : Int} (h : Rds L W z f M) (N : NL L W (Tre z f) (fun x => x = f) False z M0 M) (t2 : mI M f 2 = 1) (V0 : 0 < V → 0 < nv M (f + 3)) (le : A ≤ t * V → nv M (f + 1) ≤ nv M (f + 3)) (ex : 0 < V → nv M (f + 1) * (t * V) = A * nv M (f + 3) ∧ (2 ^ 480 ≤ nv M (f + 3) → ¬ ft9 ((A : Rat) * ((t * V : Int) : Rat)⁻¹))) : h_Sc_fits_74 G (d + 1) f M (ftQ L W z f t A V M0) := by
  obtain ⟨⟨k1, k2⟩, -, ⟨f0, f1⟩, -, -, mf1, mf3⟩ := h.pl
  refine k_Sc_fits_74 h.1 ?_
  rw [f1]
  refine ⟨k2, h.2.1.kd mf3, (s_Na_bits (d := d) h.1 (h.2.1.nt mf3)).mono (fun x M37 k => ?_)⟩
  obtain ⟨e, n, en, n1, n2, n3, n4⟩ := k
  have cb := h.2.1.cb mf3
  have sc := h.2.1.sc mf3
  have n2' : nv M (f + 3) < 2 ^ n := n2
  rw [e]
  refine ⟨⟨by omega, by omega⟩, h.1, fun v41 e41 => ⟨N, t2, V0, ?_, fun v0 => ?_, le, fun vp => ⟨(ex vp).1, fun v0 => (ex vp).2 ?_⟩⟩⟩
  · rw [e41]; split <;> omega
  · by_cases c : 480 < x
    · rw [if_pos c] at e41; exact absurd e41 v0
    · exact Int.lt_of_lt_of_le n2' (p2m (by omega))
  · by_cases c : 480 < x
    · have s0 : 0 < sz M (f + 3) := Classical.byContradiction (fun z => by
        have := n4 (by omega)
        omega)
      have n3' : 2 ^ (n - 1) ≤ nv M (f + 3) := (n3 s0).2
      exact Int.le_trans (p2m (by omega)) n3'
    · rw [if_neg c, v0] at e41
      exact absurd e41 (by decide)
theorem f_fits (h : Rds L W z f M) (nf : ¬ T4 z (f + 1) ∧ ¬ T4 z (f + 3)) (ht : mI M f 2 = t) (t1 : 1 ≤ t ∧ t < 1073741824) (s1 : sz M (f + 1) ≤ s) (s3 : sz M (f + 3) ≤ s) (hs : s ≤ 14000) (hW : ∀ x, Tre z f x → s + 4 ≤ W x) : Ci G y_Sc_fits (d + 6) [vr z, vr f] M (ftQ L W z f t (nv M (f + 1)) (nv M (f + 3)) M) := by
  obtain ⟨⟨k1, k2⟩, ⟨r2, r3⟩, ⟨f0, f1⟩, m5, m7, mf1, mf3⟩ := h.pl
  have hF := h.2.1
  have w3 := hW _ (Or.inr (Or.inr rfl))
  have f13 : f + 3 ≠ f + 1 := nez (by decide)
  have A0 := hF.nn0 mf1
  refine k_Sc_fits h.1 ?_
  rw [f1, ht]
  refine ⟨k2, hF.kd mf3, (f_multiply (d := d + 3) t1 h.1 hF mf3 (by omega)).mono (fun M3 k => ?_)⟩
  obtain ⟨c1, v1⟩ := k
  obtain ⟨n1, H1⟩ := h.st (Or.inr (Or.inr rfl)) c1
  have a1 := (c1.num hF mf1 (fun e => f13 e.symm)).2.2.2
  refine ⟨c1.ok, H1.2.2.2.1.1, fun M7 e7 => ?_⟩
  obtain ⟨n2, t2, vv⟩ := nl_times (T := Tre z f) (I := fun x => x = f) (r := False) (z := z) c1.ok H1.2.1 H1.2.2.2 H1.2.2.1.z9 ⟨by decide, by decide⟩ e7 h.tre rfl H1.iw
  have H2 := H1.nl n2
  have N2 := n1.trans n2
  have F2 := H2.2.1
  have A2 : nv M7 (f + 1) = nv M (f + 1) := by rw [vv _ mf1, a1.2.1]
  have V2 : nv M7 (f + 3) = t * nv M (f + 3) := by rw [vv _ mf3, v1]
  have Vn := hF.nn0 mf3
  have Vp : 0 < nv M (f + 3) → 0 < t * nv M (f + 3) := fun V0 => Int.mul_pos (by omega) V0
  have sv : sz M7 (f + 3) ≤ s + 1 := F2.szv mf3 (by rw [V2]; exact (mul_sz ⟨Vn, Int.lt_of_lt_of_le (hF.vlt mf3) (p30m s3)⟩ t1).2)
  have sa : sz M7 (f + 1) ≤ s := F2.szv mf1 (by rw [A2]; exact Int.lt_of_lt_of_le (hF.vlt mf1) (p30m s1))
  obtain ⟨⟨k1, k2⟩, ⟨r2, r3⟩, ⟨f0, f1⟩, -⟩ := H2.pl
  have pt : ∀ {M8 : mM} {v : Int}, (v = 0 ∨ v = 1) → v * (t * nv M (f + 3)) = nv M (f + 1) → (NL L W (T2 f) (fun x => x = f) False z M7 M8 ∧ nv M8 (f + 1) = v ∧ nv M8 (f + 3) = 1 ∧ mI M8 f 2 = 1) → mOk M8 ∧ h_Sc_fits_74 G (d + 5) f M8 (ftQ L W z f t (nv M (f + 1)) (nv M (f + 3)) M) := by
    intro M8 v hv hA k
    obtain ⟨n3, p1, p3, p2⟩ := k
    have n3' : NL L W (Tre z f) (fun x => x = f) False z M7 M8 := n3.mono F2 (fun t ht => Or.inr ht) h.tre (fun _ e => e) H2.iw (fun e => e)
    exact ⟨n3.ok, s_ft74 (d := d + 4) (H2.nl n3') (N2.trans n3') p2 (fun _ => by rw [p3]; decide) (fun _ => by rw [p1, p3]; omega) (fun _ => ⟨by rw [p1, p3, Int.mul_one]; exact hA, fun u => by rw [p3] at u; exact absurd u (by decide +kernel)⟩)⟩
  rw [f0, f1, (F2.nt mf1).2.1]
  refine ⟨F2.kd mf1, fun y => (f_Fr_put0 (d := d + 4) ⟨by decide, by decide⟩ H2.1 F2 H2.2.2.2 H2.2.2.1.z9).mono (fun M12 k => pt (Or.inl rfl) (by rw [Int.zero_mul, ← A2]; exact ((F2.sz0 mf1).1 (by omega)).symm) k), fun y => (f_order (d := d + 5) H2.1 F2 mf1 mf3).mono (fun x16 M15 k => ?_)⟩
  obtain ⟨e15, ox⟩ := k
  rw [e15, f1]
  refine ⟨by unfold orQ at ox; exact ⟨by omega, by omega⟩, H2.1, fun y => ⟨k2, (f_Fr_put0 (d := d + 4) ⟨by decide, by decide⟩ H2.1 F2 H2.2.2.2 H2.2.2.1.z9).mono (fun M21 k => pt (Or.inr rfl) (by
    rw [A2, V2] at ox
    unfold orQ at ox
    rw [Int.one_mul]
    omega) k)⟩, fun y => ⟨k2, F2.kd mf3, (s_Na_bits (d := d + 4) H2.1 (F2.nt mf3)).mono (fun x27 M26 k => ?_)⟩⟩
  obtain ⟨e26, nb, en, nb1, nb2, -⟩ := k
  have nb2' : nv M7 (f + 3) < 2 ^ nb := nb2
  have cb := F2.cb mf3
  have sc := F2.sc mf3
  rw [e26]
  refine ⟨⟨by omega, by omega⟩, H2.1, fun le9 => s_ft74 (d := d + 4) H2 N2 t2 (fun V0 => by rw [V2]; exact Vp V0) (fun le => by rw [A2, V2]; exact le) (fun _ => ⟨by rw [A2, V2], fun u => by
    have := Int.lt_of_lt_of_le nb2' (p2m (show nb ≤ 480 by omega))
    omega⟩), fun _ => ⟨k1, (f_reduce (d := d) (s := s + 1) (t := 1) H2 nf t2 ⟨by decide, by decide⟩ (by omega) sv (by omega) (fun x hx => by have := hW x hx; omega)).mono (fun M32 k => ?_)⟩⟩
  obtain ⟨n4, p1, p2, p3, p4, p5, p6, p7⟩ := k
  refine ⟨n4.ok, s_ft74 (d := d + 4) (H2.nl n4) (N2.trans n4) p1 (fun V0 => p2 (by rw [V2]; exact Vp V0)) (fun le => p5 (by rw [A2, V2, Int.one_mul]; exact le)) (fun V0 => ?_)⟩
  have V0' : 0 < nv M7 (f + 3) := by rw [V2]; exact Vp V0
  have p7' := p7 V0'
  have p2' := p2 V0'
  rw [Int.one_mul, A2, V2] at p6
  exact ⟨p6, fun u => nft_of (rat_cross (Vp V0) p6) (n4.nf.nn0 mf1) p2' p7' (Or.inr u)⟩
/-- how often a divisor is in a number -/
theorem f_wholePart (hO : mOk M) (hF : NF L W M) (hS : SK L M z) (ha : a ∈ L) (hb : b ∈ L) (ab : a ≠ b) (na : ¬ T4 z a) (nb : ¬ T4 z b) (b0 : 0 < nv M b) (wa : sz M a + 2 ≤ W a) (w5 : sz M a + 1 ≤ W (z + 5)) (w7 : sz M b + 1 ≤ W (z + 7)) : Ci G y_Sc_wholePart (d + 4) [vr z, vr a, vr b] M (fun x M' => NC L W (fun x => x = a ∨ x = z + 5 ∨ x = z + 7) M M' ∧ nv M' a < nv M b ∧ 0 ≤ x ∧ x < 1073741824 ∧ nv M a = nv M b * nv M' (z + 5) + nv M' a ∧ (nv M' (z + 5) < 1073741824 → x = nv M' (z + 5))) := by
  obtain ⟨⟨k1, k1'⟩, ⟨-, -, r2, r3, -⟩, -, -, -, ⟨-, -, m5, m7, -⟩, -⟩ := id hS
  have a5 : a ≠ z + 5 := fun e => na (Or.inr (Or.inr (Or.inl e)))
  have a7 : a ≠ z + 7 := fun e => na (Or.inr (Or.inr (Or.inr e)))
  have b5 : b ≠ z + 5 := fun e => nb (Or.inr (Or.inr (Or.inl e)))
  have b7 : b ≠ z + 7 := fun e => nb (Or.inr (Or.inr (Or.inr e)))
  refine k_Sc_wholePart hO ?_
  rw [r2, r3]
  refine ⟨k1, hF.kd ha, (f_divide (d := d) hO hF ha hb m5 m7 ab a5 a7 b5 b7 (nez (by decide)) b0 wa w5 w7).mono (fun M3 k => ?_)⟩
  obtain ⟨c, v, l⟩ := k
  have hF3 := c.nf
  have hS3 := (c.nl (I := fun _ => False) (r := False) noI hS.z9).sk hF hS
  obtain ⟨⟨j1, -⟩, ⟨-, -, j2, -⟩, -⟩ := id hS3
  have t5 := hF3.nt m5
  have q := t5.1.2.2.2.2.1.1
  have cc : mN M3 (mR M3 (z + 5) 0) = cp M3 (z + 5) := rfl
  have q0 := hF3.nn0 m5
  rw [j2, t5.2.1, cc]
  refine ⟨c.ok, j1, hF3.kd m5, fun _ => ⟨hF3.ka m5, ⟨by omega, by omega⟩⟩, fun v11 e11 => ?_⟩
  by_cases u : sz M3 (z + 5) = 0
  · rw [if_pos (by omega)] at e11
    rw [e11]
    exact ⟨c, l, by decide, by decide, v, fun _ => ((hF3.sz0 m5).1 u).symm⟩
  · rw [if_neg (by omega)] at e11
    have lb := t5.2.2.2.1 0 (by omega)
    rw [e11]
    refine ⟨c, l, lb.1, lb.2, v, fun lt => ?_⟩
    have s1 : sz M3 (z + 5) ≤ 1 := hF3.szv m5 (by rw [show (2 : Int) ^ (30 * 1) = 1073741824 by decide]; exact lt)
    unfold nv
    rw [show sz M3 (z + 5) = 1 by omega]
    show _ = 0 + mI M3 (mR M3 (z + 5) 0) 0 * 2 ^ (30 * 0)
    rw [show (2 : Int) ^ (30 * 0) = 1 by decide]
    omega
end NAZ
end
section
/-! The Scales: the best command is picked. -/
section NBA
variable {G : mG} {d b c z n m w S x y B u g a R cn bc f s i to : Nat} {M M0 M' M1 M2 M3 : mM} {L : List Nat} {W : Nat → Nat} {T T' I I' : Nat → Prop} {r : Prop} {sh t : Int}
/-- all numbers of the Scales -/
def Tpk (z x : Nat) : Prop := T4 z x ∨ Tor z x ∨ (x = z + 14 ∨ x = z + 16) ∨ T2 (z + 18) x ∨ T2 (z + 23) x
def Ipk (z x : Nat) : Prop := x = z + 18 ∨ x = z + 23
/-- a row lies apart -/
def Rap (z f : Nat) : Prop := ¬ Tpk z (f + 1) ∧ ¬ Tpk z (f + 3) ∧ f ≠ z + 18 ∧ f ≠ z + 23
theorem Rap.dw (h : Rap z f) (hw : Ipk z w) : Dwg z w f := by
  obtain ⟨h1, h2, h3, h4⟩ := h
  have tw : ∀ x, Twg z w x → Tpk z x := by
    intro x hx
    rcases hx with u | u | u | u | u | u
    · exact Or.inl u
    · exact Or.inr (Or.inl (Or.inr u))
    · exact Or.inr (Or.inr (Or.inl (Or.inl u)))
    · exact Or.inr (Or.inr (Or.inl (Or.inr u)))
    · rcases hw with e | e <;> rw [e] at u
      · exact Or.inr (Or.inr (Or.inr (Or.inl (Or.inl u))))
      · exact Or.inr (Or.inr (Or.inr (Or.inr (Or.inl u))))
    · rcases hw with e | e <;> rw [e] at u
      · exact Or.inr (Or.inr (Or.inr (Or.inl (Or.inr u))))
      · exact Or.inr (Or.inr (Or.inr (Or.inr (Or.inr u))))
  refine ⟨?_, fun u => h1 (tw _ u), fun u => h2 (tw _ u), ?_⟩
  · unfold T4
    rcases hw with e | e <;> subst e <;> omega
  · rcases hw with e | e
    · rw [e]; exact h3
    · rw [e]; exact h4
theorem tw_pk (hw : Ipk z w) {x : Nat} (hx : Twg z w x) : Tpk z x := by
  rcases hx with u | u | u | u | u | u
  · exact Or.inl u
  · exact Or.inr (Or.inl (Or.inr u))
  · exact Or.inr (Or.inr (Or.inl (Or.inl u)))
  · exact Or.inr (Or.inr (Or.inl (Or.inr u)))
  · rcases hw with e | e <;> rw [e] at u
    · exact Or.inr (Or.inr (Or.inr (Or.inl (Or.inl u))))
    · exact Or.inr (Or.inr (Or.inr (Or.inr (Or.inl u))))
  · rcases hw with e | e <;> rw [e] at u
    · exact Or.inr (Or.inr (Or.inr (Or.inl (Or.inr u))))
    · exact Or.inr (Or.inr (Or.inr (Or.inr (Or.inr u))))
theorem SK.tpk (h : SK L M z) : ∀ t, Tpk z t → t ∈ L := by
  intro t ht
  obtain ⟨-, -, -, -, -, ⟨h1, h2, h3, h4, h5, h6, h7, h8⟩, ⟨h9, h10, h11, h12⟩⟩ := id h
  rcases ht with u | (u | u) | (u | u) | (u | u) | (u | u)
  · exact h.t4 t u
  · rw [u]; exact h5
  · rw [u]; exact h6
  · rw [u]; exact h7
  · rw [u]; exact h8
  · rw [u]; exact h9
  · rw [u]; exact h10
  · rw [u]; exact h11
  · rw [u]; exact h12
theorem SK.ipk (h : SK L M z) : ∀ x, Ipk z x → x < mZ M ∧ mK M x = 11 := by
  intro x hx
  obtain ⟨-, -, -, -, ⟨h1, h2⟩, -⟩ := h
  rcases hx with u | u
  · rw [u]; exact ⟨h1.2.2, h1.1⟩
  · rw [u]; exact ⟨h2.2.2, h2.1⟩
theorem SK.frl (h : SK L M z) (hw : Ipk z w) : FrL L M w := by
  obtain ⟨-, -, -, -, ⟨h1, h2⟩, -, ⟨h9, h10, h11, h12⟩⟩ := h
  rcases hw with u | u
  · rw [u]; exact ⟨h1, h9, h10⟩
  · rw [u]; exact ⟨h2, h11, h12⟩
/-- where picking works -/
def Pe (L : List Nat) (W : Nat → Nat) (z g a R cn : Nat) (M : mM) : Prop := (mOk M ∧ NF L W M ∧ SK L M z) ∧ (GK9 M g ∧ ∀ i, i ≤ 9 → Oc L M (g + i)) ∧ Rws L M a R cn ∧ ∀ i, i < cn → Rap z (mR M R i)
theorem Pe.we (h : Pe L W z g a R cn M) (hw : Ipk z w) : We L W z w g a R cn M := by
  obtain ⟨⟨h1, h2, h3⟩, h4, h5, h6⟩ := h
  exact ⟨⟨h1, h2, h3, h3.frl hw⟩, h4, h5, fun i hi => (h6 i hi).dw hw⟩
theorem Pe.nl (h : Pe L W z g a R cn M) (k : NL L W (Tpk z) (Ipk z) r z M M') (hS : SK L M' z) : Pe L W z g a R cn M' ∧ (∀ i, i ≤ 9 → mI M' (g + i) = mI M (g + i)) ∧ mR M' R = mR M R ∧ ∀ i, i < cn → nv M' (mR M R i + 1) = nv M (mR M R i + 1) ∧ nv M' (mR M R i + 3) = nv M (mR M R i + 3) := by
  obtain ⟨t1, t2, t3, t4, t5⟩ := (h.we (w := z + 18) (Or.inl rfl)).tb k (fun x e => (h.1.2.2.ipk x e).2)
  obtain ⟨⟨h1, h2, h3⟩, h4, h5, h6⟩ := h
  refine ⟨⟨⟨k.ok, k.nf, hS⟩, ⟨t1, t2⟩, t4, fun i hi => by rw [t5]; exact h6 i hi⟩, t3, t5, fun i hi => ?_⟩
  have hf := h5.2.2.2.2.2 i hi
  exact ⟨(k.num h2 hf.2.1 (h6 i hi).1).2.2, (k.num h2 hf.2.2 (h6 i hi).2.1).2.2⟩
/-- a worth that was weighed -/
def Bst (M0 : mM) (R cn S : Nat) (M : mM) (b : Nat) : Prop := (0 ≤ nv M (b + 3) ∧ nv M (b + 3) < 2 ^ (30 * (8 * S + 1))) ∧ nv M (b + 1) < 2 ^ (30 * (8 * S + 3)) ∧ (1 ≤ mI M b 2 ∧ mI M b 2 < 1000000000) ∧ (Rle M0 R cn → nv M (b + 1) ≤ mI M b 2 * nv M (b + 3) ∧ 0 < nv M (b + 3))
theorem Bst.cg (h : Bst M0 R cn S M b) (e1 : nv M' (b + 1) = nv M (b + 1)) (e3 : nv M' (b + 3) = nv M (b + 3)) (e2 : mI M' b = mI M b) : Bst M0 R cn S M' b := by
  unfold Bst
  rw [e1, e3, e2]
  exact h
/-- what picking leaves behind -/
def pkQ (L : List Nat) (W : Nat → Nat) (z R cn S fr to : Nat) (M : mM) (x : Int) (M' : mM) : Prop := NL L W (Tpk z) (Ipk z) True z M M' ∧ SK L M' z ∧ Bst M R cn S M' (mR M' z 9) ∧ ((fr : Int) ≤ x ∧ x < to)
/-- the two worths -/
theorem SK.bt (h : SK L M z) : Ipk z (mR M z 9) ∧ Ipk z (mR M z 10) ∧ mR M z 9 ≠ mR M z 10 := by
  obtain ⟨-, -, h3, -⟩ := h
  unfold Ipk
  omega
theorem wg_pk (hE : Pe L W z g a R cn M) (hw : Ipk z w) {mu : Nat} (hm : 1 ≤ mu ∧ mu < 1000000000) (q : wgQ L W z w R cn S mu M M') : NL L W (Tpk z) (Ipk z) True z M M' ∧ SK L M' z ∧ Bst M R cn S M' w := by
  obtain ⟨n, u, v, tt, le⟩ := q
  refine ⟨n.mono hE.1.2.1 (fun t ht => tw_pk hw ht) hE.1.2.2.tpk (fun x e => by rw [e]; exact hw) hE.1.2.2.ipk (fun e => e.elim), n.sk hE.1.2.1 hE.1.2.2, u, v, by rw [tt]; omega, fun l => by rw [tt]; exact le l⟩
theorem s_pkStep (hE : Pe L W z g a R cn M) (hrs : Rsm M R cn S) (hW : ∀ x, Tpk z x → B ≤ W x) (b1 : 16 * S + 10 ≤ B) (hB : B ≤ 16000) (hb : Bst M0 R cn S M (mR M z 9)) (hc : c < 4096) (hcn : cn ≤ 512) (hbc : bc ≤ 4096) (hcm : cmdG M g cn bc c) (hle : Rle M0 R cn → Rle M R cn) {v9 : Rat} (hv9 : BsV M0 R cn M (mR M z 9) v9) {Q : Int → mM → Prop}
    (hQ : ∀ x M', NL L W (Tpk z) (Ipk z) True z M M' → SK L M' z → (mR M' z = mR M z) → Bst M0 R cn S M' (mR M z 9) → Bst M0 R cn S M' (mR M z 10) → i32 x → BsV M0 R cn M' (mR M z 9) v9 → BsV M0 R cn M' (mR M z 10) (wr9 (rwv M R) (cmm M g c)) → (Rle M0 R cn → orR (wr9 (rwv M R) (cmm M g c)) v9 x) → Q x M') : mK M z = 9 ∧ Cv G y_Sc_weigh (d + 5) [vr z, vr g, vi c, vr a, vr (mR M z 10)] M (fun M8 => mOk M8 ∧ (mK M8 z = 9 ∧ Ci G y_Sc_order (d + 5) [vr z, vr (mR M8 z 10), vr (mR M8 z 9)] M8 (fun x13 M12 => i32 x13 ∧ mOk M12 ∧ Q x13 M12))) := by
  obtain ⟨i9, i10, ne⟩ := hE.1.2.2.bt
  have hF := hE.1.2.1
  have hS := hE.1.2.2
  obtain ⟨mu, hm, emu, k⟩ := f_weighX (G := G) (d := d) (B := B) (S := S) (hE.we i10) hrs (fun x hx => hW x (tw_pk i10 hx)) (by omega) hB hc hcn hbc hcm
  refine ⟨hS.1.1, k.mono (fun M8 qv => ?_)⟩
  obtain ⟨q, qv⟩ := qv
  have bv8 : BsV M R cn M8 (mR M z 10) (wr9 (rwv M R) (cmm M g c)) := by
    have := wv_bs qv (show (0 : Int) < ((mu : Nat) : Int) by omega) q.2.2.2.1 (fun l => (q.2.2.2.2 l).2)
    unfold wr9
    rw [emu]
    exact this
  have rz : mR M8 z = mR M z := (q.1.2.2.1.2 z hS.1.2).2.2.2.1 (fun u => u.elim (fun u => (hF.nz hS.1.1 (hS.tpk z (tw_pk i10 u))).1 rfl) (fun u => u.2))
  have q0 := q
  obtain ⟨n1, sk8, bt8⟩ := wg_pk hE i10 hm q
  have bt8' : Bst M0 R cn S M8 (mR M z 10) := ⟨bt8.1, bt8.2.1, bt8.2.2.1, fun l => bt8.2.2.2 (hle l)⟩
  have F8 := n1.nf
  have f9 := hS.frl i9
  have nt : ¬ Twg z (mR M z 10) (mR M z 9 + 1) ∧ ¬ Twg z (mR M z 10) (mR M z 9 + 3) := by
    rcases hS.2.2.1 with ⟨e1, e2⟩ | ⟨e1, e2⟩ <;> rw [e1, e2] <;> unfold Twg T4 <;> omega
  have bb8 : Bst M0 R cn S M8 (mR M z 9) := hb.cg (q0.1.num hF f9.2.1 nt.1).2.2 (q0.1.num hF f9.2.2 nt.2).2.2 ((q0.1.frp hF f9.1).2 ne)
  have bw8 : BsV M0 R cn M8 (mR M z 9) v9 := hv9.cg (q0.1.num hF f9.2.1 nt.1).2.2 (q0.1.num hF f9.2.2 nt.2).2.2 ((q0.1.frp hF f9.1).2 ne)
  rw [rz]
  have f9' := sk8.frl i9
  have f10' := sk8.frl i10
  have os : ∀ {b : Nat}, FrL L M8 b → Bst M0 R cn S M8 b → Osz M8 b (8 * S + 3) := fun hb hB => ⟨F8.szv hb.2.1 hB.2.1, F8.szv hb.2.2 (Int.lt_of_lt_of_le hB.1.2 (p30m (by omega))), hB.2.2.1.1, by have := hB.2.2.1.2; omega⟩
  have ot : ∀ {b : Nat}, Ipk z b → ¬ Tor z (b + 1) ∧ ¬ Tor z (b + 3) := fun hb => by
    unfold Tor
    rcases hb with e | e <;> subst e <;> omega
  refine ⟨n1.ok, sk8.1.1, (f_Sc_orderX (d := d) (s := 8 * S + 3) ⟨n1.ok, F8, sk8, f10', f9'⟩ (os f10' bt8') (os f9' bb8) (ot i10) (ot i9) (by have := hW _ (Or.inr (Or.inl (Or.inl rfl))); omega) (by have := hW _ (Or.inr (Or.inl (Or.inr rfl))); omega)).mono (fun x M12 k2 => ?_)⟩
  obtain ⟨n2, xx, xo⟩ := k2
  have xi : i32 x := by rcases xx with e | e | e <;> rw [e] <;> exact ⟨by decide, by decide⟩
  have n2' : NL L W (Tpk z) (Ipk z) True z M8 M12 := n2.mono F8 (fun t ht => Or.inr (Or.inl ht)) hS.tpk (fun _ e => e.elim) sk8.ipk (fun e => e.elim)
  have sk12 := n2.sk F8 sk8
  have rz2 : mR M12 z = mR M8 z := (n2.2.2.1.2 z sk8.1.2).2.2.2.1 (fun u => u.elim (fun u => (F8.nz sk8.1.1 (hS.tpk z (Or.inr (Or.inl u)))).1 rfl) (fun u => u.2))
  refine ⟨xi, n2.ok, hQ x M12 (n1.trans n2') sk12 (by rw [rz2, rz]) ?_ ?_ xi ?_ ?_ (fun l => ?_)⟩
  · exact bb8.cg (n2.num F8 f9'.2.1 (ot i9).1).2.2 (n2.num F8 f9'.2.2 (ot i9).2).2.2 ((n2.frp F8 f9'.1).2 (fun e => e))
  · exact bt8'.cg (n2.num F8 f10'.2.1 (ot i10).1).2.2 (n2.num F8 f10'.2.2 (ot i10).2).2.2 ((n2.frp F8 f10'.1).2 (fun e => e))
  · exact bw8.cg (n2.num F8 f9'.2.1 (ot i9).1).2.2 (n2.num F8 f9'.2.2 (ot i9).2).2.2 ((n2.frp F8 f9'.1).2 (fun e => e))
  · exact BsV.cg (fun l => bv8 (hle l)) (n2.num F8 f10'.2.1 (ot i10).1).2.2 (n2.num F8 f10'.2.2 (ot i10).2).2.2 ((n2.frp F8 f10'.1).2 (fun e => e))
  · rw [← bv8 (hle l), ← bw8 l]
    exact xo (bt8'.2.2.2 l).2 (bb8.2.2.2 l).2
end NBA
end
