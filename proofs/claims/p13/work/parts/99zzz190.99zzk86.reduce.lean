/-! The Scales: least terms, fitting, whole parts. -/
section NAY
variable {G : mG} {d b c z n m w S x y B u g a R cn f s : Nat} {M M0 M' M1 M2 M3 : mM} {L : List Nat} {W : Nat → Nat} {T T' I I' : Nat → Prop} {sh t : Int}
def Tre (z f x : Nat) : Prop := T4 z x ∨ x = f + 1 ∨ x = f + 3
def Rds (L : List Nat) (W : Nat → Nat) (z f : Nat) (M : mM) : Prop := mOk M ∧ NF L W M ∧ SK L M z ∧ FrL L M f
theorem Rds.tre (h : Rds L W z f M) : ∀ t, Tre z f t → t ∈ L := fun t ht => by
  rcases ht with e | e | e
  · exact h.2.2.1.t4 t e
  · rw [e]; exact h.2.2.2.2.1
  · rw [e]; exact h.2.2.2.2.2
theorem Rds.iw (h : Rds L W z f M) : ∀ x, (fun x => x = f) x → x < mZ M ∧ mK M x = 11 := fun x u => by
  rw [u]
  exact ⟨h.2.2.2.1.2.2, h.2.2.2.1.1⟩
theorem Rds.nl (h : Rds L W z f M) (k : NL L W (Tre z f) (fun x => x = f) False z M M') : Rds L W z f M' := ⟨k.ok, k.nf, k.sk h.2.1 h.2.2.1, k.frl h.2.1 h.2.2.2⟩
theorem Rds.st (h : Rds L W z f M) (ha : Tre z f a) (c : NC L W (fun x => x = a) M M') : NL L W (Tre z f) (fun x => x = f) False z M M' ∧ Rds L W z f M' := by
  have n : NL L W (Tre z f) (fun x => x = f) False z M M' := (c.nl (I := fun x => x = f) (r := False) h.iw h.2.2.1.z9).mono h.2.1 (fun t ht => by rw [ht]; exact ha) h.tre (fun _ u => u) h.iw (fun u => u)
  exact ⟨n, h.nl n⟩
theorem Rds.st3 (h : Rds L W z f M) (ha : Tre z f a ∧ Tre z f b ∧ Tre z f c) (k : NC L W (fun x => x = a ∨ x = b ∨ x = c) M M') : NL L W (Tre z f) (fun x => x = f) False z M M' ∧ Rds L W z f M' := by
  have n : NL L W (Tre z f) (fun x => x = f) False z M M' := (k.nl (I := fun x => x = f) (r := False) h.iw h.2.2.1.z9).mono h.2.1 (fun t ht => by
    rcases ht with u | u | u
    · rw [u]; exact ha.1
    · rw [u]; exact ha.2.1
    · rw [u]; exact ha.2.2) h.tre (fun _ u => u) h.iw (fun u => u)
  exact ⟨n, h.nl n⟩
theorem Rds.pl (h : Rds L W z f M) : (mK M z = 9 ∧ mK M f = 11) ∧ (mR M z 2 = z + 5 ∧ mR M z 3 = z + 7) ∧ (mR M f 0 = f + 1 ∧ mR M f 1 = f + 3) ∧ (z + 5 ∈ L ∧ z + 7 ∈ L ∧ f + 1 ∈ L ∧ f + 3 ∈ L) := by
  obtain ⟨-, -, ⟨k1, ⟨-, -, k2, k3, -⟩, -, -, -, ⟨-, -, p1, p2, -⟩, -⟩, ⟨⟨q1, q2, -⟩, q3, q4⟩⟩ := h
  exact ⟨⟨k1.1, q1⟩, ⟨k2, k3⟩, q2, p1, p2, q3, q4⟩
/-- both numbers are divided -/
theorem s_rdDiv {Q : mM → Prop} {r : Nat} {A V q : Int} (h : Rds L W z f M) (er : r = z + 1 ∨ r = z + 3) (nf : ¬ T4 z (f + 1) ∧ ¬ T4 z (f + 3)) (hA : nv M (f + 1) = A) (hV : nv M (f + 3) = V) (hq : nv M r = q) (q0 : 0 < q) (d1 : q ∣ A) (d2 : q ∣ V) (A0 : 0 < A) (s1 : sz M (f + 1) + 2 ≤ s) (s2 : sz M (f + 3) + 2 ≤ s) (w1 : s ≤ W (f + 1)) (w3 : s ≤ W (f + 3)) (w5 : s ≤ W (z + 5)) (w7 : s ≤ W (z + 7))
    (hQ : ∀ M' Q1 Q2, NL L W (Tre z f) (fun x => x = f) False z M M' → mI M' f 2 = mI M f 2 → nv M' (f + 1) = Q1 → nv M' (f + 3) = Q2 → A = q * Q1 → V = q * Q2 → 0 ≤ Q1 → 0 ≤ Q2 → Q M') : mK M f = 11 ∧ mK M z = 9 ∧ mK M (mR M f 0) = 10 ∧ Cv G y_Na_divide (d + 4) [vr (mR M f 0), vr r, vr (mR M z 2), vr (mR M z 3)] M (fun M32 => mOk M32 ∧ (mK M32 f = 11 ∧ mK M32 z = 9 ∧ mK M32 (mR M32 f 0) = 10 ∧ Cv G y_Na_put1 (d + 4) [vr (mR M32 f 0), vr (mR M32 z 2)] M32 (fun M38 => mOk M38 ∧ (mK M38 f = 11 ∧ mK M38 z = 9 ∧ mK M38 (mR M38 f 1) = 10 ∧ Cv G y_Na_divide (d + 4) [vr (mR M38 f 1), vr r, vr (mR M38 z 2), vr (mR M38 z 3)] M38 (fun M44 => mOk M44 ∧ (mK M44 f = 11 ∧ mK M44 z = 9 ∧ mK M44 (mR M44 f 1) = 10 ∧ Cv G y_Na_put1 (d + 4) [vr (mR M44 f 1), vr (mR M44 z 2)] M44 (fun M50 => mOk M50 ∧ (Q M50)))))))) := by
  obtain ⟨⟨k1, k2⟩, ⟨r2, r3⟩, ⟨f0, f1⟩, m5, m7, mf1, mf3⟩ := h.pl
  obtain ⟨⟨rn5, rn7, -, -⟩, -⟩ := r_n er
  have tr : T4 z r := er.elim Or.inl (fun e => Or.inr (Or.inl e))
  have mr : r ∈ L := h.2.2.1.t4 r tr
  have rf1 : r ≠ f + 1 := fun e => nf.1 (by rw [← e]; exact tr)
  have rf3 : r ≠ f + 3 := fun e => nf.2 (by rw [← e]; exact tr)
  have t5 : Tre z f (z + 5) := Or.inl (Or.inr (Or.inr (Or.inl rfl)))
  have t7 : Tre z f (z + 7) := Or.inl (Or.inr (Or.inr (Or.inr rfl)))
  have f15 : f + 1 ≠ z + 5 := fun e => nf.1 (Or.inr (Or.inr (Or.inl e)))
  have f17 : f + 1 ≠ z + 7 := fun e => nf.1 (Or.inr (Or.inr (Or.inr e)))
  have f35 : f + 3 ≠ z + 5 := fun e => nf.2 (Or.inr (Or.inr (Or.inl e)))
  have f37 : f + 3 ≠ z + 7 := fun e => nf.2 (Or.inr (Or.inr (Or.inr e)))
  have f13 : f + 3 ≠ f + 1 := nez (by decide)
  have hF := h.2.1
  have qV := Int.le_of_dvd A0 d1
  have sr : sz M r ≤ sz M (f + 1) := hF.szm hF mr mf1 (by rw [hq, hA]; exact qV)
  rw [f0, r2, r3]
  refine ⟨k2, k1, hF.kd mf1, (f_divide (d := d + 1) h.1 hF mf1 mr m5 m7 (fun e => rf1 e.symm) f15 f17 rn5 rn7 (nez (by decide)) (by rw [hq]; exact q0) (by omega) (by omega) (by omega)).mono (fun M32 g => ?_)⟩
  obtain ⟨c1, v1, l1⟩ := g
  obtain ⟨n1, H1⟩ := h.st3 ⟨Or.inr (Or.inl rfl), t5, t7⟩ c1
  have F1 := H1.2.1
  rw [hA, hq] at v1
  rw [hq] at l1
  have Q1n := F1.nn0 m5
  have EA := dv_ex q0 d1 v1 ⟨F1.nn0 mf1, l1⟩
  have R1 := ((c1.num hF mr (fun e => e.elim rf1 (fun e => e.elim rn5 rn7))).2.2.2.2.1).trans hq
  have N3 := (c1.num hF mf3 (fun e => e.elim f13 (fun e => e.elim f35 f37))).2.2.2
  have sq1 : sz M32 (z + 5) ≤ sz M (f + 1) := F1.szm hF m5 mf1 (by
    rw [hA, EA]
    have := Int.mul_le_mul_of_nonneg_right (show 1 ≤ q by omega) Q1n
    omega)
  obtain ⟨⟨k1, k2⟩, ⟨r2, r3⟩, ⟨f0, f1⟩, -⟩ := H1.pl
  rw [f0, r2]
  refine ⟨H1.1, k2, k1, F1.kd mf1, (f_put1 (d := d + 3) H1.1 F1 mf1 m5 f15 (by omega)).mono (fun M38 g => ?_)⟩
  obtain ⟨c2, v2⟩ := g
  obtain ⟨n2, H2⟩ := H1.st (Or.inr (Or.inl rfl)) c2
  have F2 := H2.2.1
  have R2 := (c2.v F1 mr rf1).trans R1
  have V2 := (c2.num F1 mf3 f13).2.2.2
  have V2' := (V2.2.1.trans N3.2.1).trans hV
  have sr2 : sz M38 r ≤ sz M (f + 1) := F2.szm hF mr mf1 (by rw [R2, hA]; exact qV)
  obtain ⟨⟨k1, k2⟩, ⟨r2, r3⟩, ⟨f0, f1⟩, -⟩ := H2.pl
  rw [f1, r2, r3]
  refine ⟨H2.1, k2, k1, F2.kd mf3, (f_divide (d := d + 1) H2.1 F2 mf3 mr m5 m7 (fun e => rf3 e.symm) f35 f37 rn5 rn7 (nez (by decide)) (by rw [R2]; exact q0) (by omega) (by omega) (by omega)).mono (fun M44 g => ?_)⟩
  obtain ⟨c3, v3, l3⟩ := g
  obtain ⟨n3, H3⟩ := H2.st3 ⟨Or.inr (Or.inr rfl), t5, t7⟩ c3
  have F3 := H3.2.1
  rw [V2', R2] at v3
  rw [R2] at l3
  have Q2n := F3.nn0 m5
  have EV := dv_ex q0 d2 v3 ⟨F3.nn0 mf3, l3⟩
  have A3 := ((c3.num F2 mf1 (fun e => e.elim (fun e => f13 e.symm) (fun e => e.elim f15 f17))).2.2.2.2.1).trans v2
  have sq2 : sz M44 (z + 5) ≤ sz M38 (f + 3) := F3.szm F2 m5 mf3 (by
    rw [V2', EV]
    have := Int.mul_le_mul_of_nonneg_right (show 1 ≤ q by omega) Q2n
    omega)
  obtain ⟨⟨k1, k2⟩, ⟨r2, r3⟩, ⟨f0, f1⟩, -⟩ := H3.pl
  rw [f1, r2]
  refine ⟨H3.1, k2, k1, F3.kd mf3, (f_put1 (d := d + 3) H3.1 F3 mf3 m5 f35 (by omega)).mono (fun M50 g => ?_)⟩
  obtain ⟨c4, v4⟩ := g
  obtain ⟨n4, H4⟩ := H3.st (Or.inr (Or.inr rfl)) c4
  have ti : ∀ {M M' : mM} {T : Nat → Prop}, FrL L M f → NF L W M → z < mZ M ∧ mK M z = 9 → NC L W T M M' → mI M' f = mI M f := fun hf hF hz c => ((c.nl (I := fun _ => False) (r := False) noI hz).frp hF hf.1).2 (fun e => e)
  refine ⟨H4.1, hQ M50 (nv M32 (z + 5)) (nv M44 (z + 5)) (((n1.trans n2).trans n3).trans n4) ?_ ((c4.v F3 mf1 (fun e => f13 e.symm)).trans A3) v4 EA EV Q1n Q2n⟩
  rw [ti H3.2.2.2 F3 H3.2.2.1.z9 c4, ti H2.2.2.2 F2 H2.2.2.1.z9 c3, ti H1.2.2.2 F1 H1.2.2.1.z9 c2, ti h.2.2.2 hF h.2.2.1.z9 c1]
/-- what least terms leave behind -/
def rdQ2 (L : List Nat) (W : Nat → Nat) (z f : Nat) (t A V : Int) (M M' : mM) : Prop := NL L W (Tre z f) (fun x => x = f) False z M M' ∧ mI M' f 2 = 1 ∧ (0 < V → 0 < nv M' (f + 3)) ∧ nv M' (f + 1) ≤ A ∧ (0 < V → nv M' (f + 3) ≤ t * V) ∧ (A ≤ t * V → nv M' (f + 1) ≤ nv M' (f + 3)) ∧ (nv M' (f + 1) * (t * V) = A * nv M' (f + 3) ∧ (0 < V → Int.gcd (nv M' (f + 1)) (nv M' (f + 3)) = 1))
/-- what is left over when the greatest divisor is gone -/
theorem gcd_left {A V q Q1 Q2 : Int} (q0 : 0 < q) (e1 : A = q * Q1) (e2 : V = q * Q2) (gr : ∀ g : Int, g ∣ A → g ∣ V → g ∣ q) : Int.gcd Q1 Q2 = 1 := by
  have d1 : q * (Int.gcd Q1 Q2 : Int) ∣ A := by rw [e1]; exact Int.mul_dvd_mul (Int.dvd_refl q) (Int.gcd_dvd_left ..)
  have d2 : q * (Int.gcd Q1 Q2 : Int) ∣ V := by rw [e2]; exact Int.mul_dvd_mul (Int.dvd_refl q) (Int.gcd_dvd_right ..)
  obtain ⟨c, hc⟩ := gr _ d1 d2
  have h1 : q * 1 = q * ((Int.gcd Q1 Q2 : Int) * c) := by rw [Int.mul_one, ← Int.mul_assoc]; exact hc
  have h2 : 1 = (Int.gcd Q1 Q2 : Int) * c := Int.eq_of_mul_eq_mul_left (by omega) h1
  have h3 : (Int.gcd Q1 Q2 : Int) ∣ 1 := ⟨c, h2⟩
  have h4 := Int.le_of_dvd (by decide) h3
  have h5 : (Int.gcd Q1 Q2 : Int) ≠ 0 := fun z => by rw [z, Int.zero_mul] at h2; exact absurd h2 (by decide)
  omega
theorem f_reduce (h : Rds L W z f M) (nf : ¬ T4 z (f + 1) ∧ ¬ T4 z (f + 3)) (ht : mI M f 2 = t) (t1 : 1 ≤ t ∧ t < 1073741824) (s1 : sz M (f + 1) ≤ s) (s3 : sz M (f + 3) ≤ s) (hs : s ≤ 15000) (hW : ∀ x, Tre z f x → s + 3 ≤ W x) : Cv G y_Sc_reduce (d + 5) [vr z, vr f] M (rdQ2 L W z f t (nv M (f + 1)) (nv M (f + 3)) M) := by
  obtain ⟨⟨k1, k2⟩, ⟨r2, r3⟩, ⟨f0, f1⟩, m5, m7, mf1, mf3⟩ := h.pl
  have hF := h.2.1
  have w1 := hW _ (Or.inr (Or.inl rfl))
  have w3 := hW _ (Or.inr (Or.inr rfl))
  have f13 : f + 3 ≠ f + 1 := nez (by decide)
  have A0 := hF.nn0 mf1
  refine k_Sc_reduce h.1 ?_
  rw [f1, ht]
  refine ⟨k2, hF.kd mf3, (f_multiply (d := d + 2) t1 h.1 hF mf3 (by omega)).mono (fun M3 k => ?_)⟩
  obtain ⟨c1, v1⟩ := k
  obtain ⟨n1, H1⟩ := h.st (Or.inr (Or.inr rfl)) c1
  have a1 := (c1.num hF mf1 (fun e => f13 e.symm)).2.2.2
  refine ⟨c1.ok, H1.2.2.2.1.1, fun M7 e7 => ?_⟩
  obtain ⟨n2, t2, vv⟩ := nl_times (T := Tre z f) (I := fun x => x = f) (r := False) (z := z) c1.ok H1.2.1 H1.2.2.2 H1.2.2.1.z9 ⟨by decide, by decide⟩ e7 h.tre rfl H1.iw
  have H2 := H1.nl n2
  have N2 := n1.trans n2
  have F2 := H2.2.1
  have A2 : nv M7 (f + 1) = nv M (f + 1) := by rw [vv _ mf1, a1.2.1]
  have V2 : nv M7 (f + 3) = t * nv M (f + 3) := by rw [vv _ mf3, v1]
  have Vn := hF.nn0 mf3
  have Vp : 0 < nv M (f + 3) → 0 < t * nv M (f + 3) := fun V0 => Int.mul_pos (by omega) V0
  obtain ⟨⟨k1, k2⟩, ⟨r2, r3⟩, ⟨f0, f1⟩, -⟩ := H2.pl
  rw [f0, f1, (F2.nt mf1).2.1]
  refine ⟨F2.kd mf1, fun y => ⟨F2.kd mf3, (f_put0 (d := d + 4) ⟨by decide, by decide⟩ H2.1 F2 mf3).mono (fun M13 k => ?_)⟩, fun y => ⟨k1, ?_⟩⟩
  · obtain ⟨c3, v3⟩ := k
    obtain ⟨n3, H3⟩ := H2.st (Or.inr (Or.inr rfl)) c3
    have z0 : nv M7 (f + 1) = 0 := (F2.sz0 mf1).1 (by omega)
    have z1 := (c3.v F2 mf1 (fun e => f13 e.symm)).trans z0
    have ti : mI M13 f = mI M7 f := ((c3.nl (I := fun _ => False) (r := False) noI H2.2.2.1.z9).frp F2 H2.2.2.2.1).2 (fun e => e)
    exact ⟨c3.ok, N2.trans n3, by rw [ti]; exact t2, fun _ => by rw [v3]; decide, by rw [z1]; exact A0, fun V0 => by rw [v3]; exact Vp V0, fun _ => by rw [z1, v3]; decide, by rw [z1, ← A2, z0, Int.zero_mul, Int.zero_mul], fun _ => by rw [z1, v3]; decide⟩
  · have Ap : 0 < nv M (f + 1) := Classical.byContradiction (fun u => y (by
      have := (F2.sz0 mf1).2 (by rw [A2]; omega)
      omega))
    have sv : sz M7 (f + 3) ≤ s + 1 := F2.szv mf3 (by rw [V2]; exact (mul_sz ⟨Vn, Int.lt_of_lt_of_le (hF.vlt mf3) (p30m s3)⟩ t1).2)
    have sa : sz M7 (f + 1) ≤ s := F2.szv mf1 (by rw [A2]; exact Int.lt_of_lt_of_le (hF.vlt mf1) (p30m s1))
    have h1 := hW (z + 1) (Or.inl (Or.inl rfl))
    have h3 := hW (z + 3) (Or.inl (Or.inr (Or.inl rfl)))
    have h5 := hW (z + 5) (Or.inl (Or.inr (Or.inr (Or.inl rfl))))
    have h7 := hW (z + 7) (Or.inl (Or.inr (Or.inr (Or.inr rfl))))
    refine (f_common (d := d) (S := s + 1) H2.1 F2 H2.2.2.1 mf1 mf3 nf.1 nf.2 (Or.inl (by rw [A2]; exact Ap)) (by omega) sv (by omega) ⟨h1, h3, h5, h7⟩).mono (fun r M17 k => ?_)
    obtain ⟨er, N17, q0, d1, d2, gr⟩ := k
    have n3 : NL L W (Tre z f) (fun x => x = f) False z M7 M17 := N17.mono F2 (fun t ht => Or.inl ht) h.tre (fun _ e => e.elim) H2.iw (fun e => e)
    have H3 := H2.nl n3
    have A3 := (N17.num F2 mf1 nf.1).2
    have V3 := (N17.num F2 mf3 nf.2).2
    have t3 : mI M17 f 2 = 1 := by rw [(N17.frp F2 H2.2.2.2.1).2 (fun e => e)]; exact t2
    have mr : r ∈ L := h.2.2.1.t4 r (er.elim Or.inl (fun e => Or.inr (Or.inl e)))
    rw [A2] at A3 d1
    rw [V2] at V3 d2
    rw [A2, V2] at gr
    refine ⟨H3.1, H3.2.1.kd mr, (s_Na_isOne (d := d + 4) H3.1 (H3.2.1.nt mr)).mono (fun x22 M21 k => ?_)⟩
    obtain ⟨e21, x01, x1v⟩ := k
    rw [e21]
    refine ⟨m_b32 x01, H3.1, fun _ => ?_, fun x1 => ?_⟩
    · exact s_rdDiv (d := d) (s := s + 3) H3 er nf A3.2 V3.2 rfl q0 d1 d2 Ap (by omega) (by omega) w1 w3 h5 h7 (fun M' Q1 Q2 g1 g2 g3 g4 g5 g6 g7 g8 => by
        have hq : 1 ≤ nv M17 r := q0
        have m1 := Int.mul_le_mul_of_nonneg_right hq g7
        have m2 := Int.mul_le_mul_of_nonneg_right hq g8
        have Q2p : 0 < nv M (f + 3) → 0 < Q2 := fun V0 => Classical.byContradiction (fun u => by
          have V1 := Vp V0
          have : Q2 = 0 := by omega
          rw [this, Int.mul_zero] at g6
          omega)
        refine ⟨(N2.trans n3).trans g1, by rw [g2]; exact t3, fun V0 => by rw [g4]; exact Q2p V0, by rw [g3]; omega, fun _ => by rw [g4]; omega, fun le => ?_, by rw [g3, g4, g6, g5]; grind, fun _ => by rw [g3, g4]; exact gcd_left q0 g5 g6 gr⟩
        rw [g3, g4]
        rw [g5, g6] at le
        exact Int.le_of_mul_le_mul_left le q0)
    · exact ⟨N2.trans n3, t3, fun V0 => by rw [V3.2]; exact Vp V0, by rw [A3.2]; exact Int.le_refl _, fun _ => by rw [V3.2]; exact Int.le_refl _, fun le => by rw [A3.2, V3.2]; exact le, by rw [A3.2, V3.2], fun _ => by
        have q1 : nv M17 r = 1 := x1v x1
        rw [q1] at gr
        rw [A3.2, V3.2]
        exact gcd_left (q := 1) (by decide) (Int.one_mul _).symm (Int.one_mul _).symm gr⟩
end NAY
