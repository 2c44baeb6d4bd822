/-! The class's top: a fraction brought to least terms, also with 0 below. -/
section NCI
variable {G : mG} {d b c z n m w S x y B u g a R cn f s : Nat} {M M0 M' M1 M2 M3 : mM} {L : List Nat} {W : Nat → Nat} {T T' I I' : Nat → Prop} {sh t : Int}
/-- as rdQ2, and a bound below for every fraction -/
def rdQ3 (L : List Nat) (W : Nat → Nat) (z f : Nat) (t A V : Int) (M M' : mM) : Prop := NL L W (Tre z f) (fun x => x = f) False z M M' ∧ mI M' f 2 = 1 ∧ (0 < V → 0 < nv M' (f + 3)) ∧ nv M' (f + 1) ≤ A ∧ (0 < V → nv M' (f + 3) ≤ t * V) ∧ (A ≤ t * V → nv M' (f + 1) ≤ nv M' (f + 3)) ∧ (nv M' (f + 3) ≤ 1 ∨ nv M' (f + 3) ≤ t * V)
theorem f_reduce3 (h : Rds L W z f M) (nf : ¬ T4 z (f + 1) ∧ ¬ T4 z (f + 3)) (ht : mI M f 2 = t) (t1 : 1 ≤ t ∧ t < 1073741824) (s1 : sz M (f + 1) ≤ s) (s3 : sz M (f + 3) ≤ s) (hs : s ≤ 15000) (hW : ∀ x, Tre z f x → s + 3 ≤ W x) : Cv G y_Sc_reduce (d + 5) [vr z, vr f] M (rdQ3 L W z f t (nv M (f + 1)) (nv M (f + 3)) M) := by
  obtain ⟨⟨k1, k2⟩, ⟨r2, r3⟩, ⟨f0, f1⟩, m5, m7, mf1, mf3⟩ := h.pl
  have hF := h.2.1
  have w1 := hW _ (Or.inr (Or.inl rfl))
  have w3 := hW _ (Or.inr (Or.inr rfl))
  have f13 : f + 3 ≠ f + 1 := nez (by decide)
  have A0 := hF.nn0 mf1
  refine k_Sc_reduce h.1 ?_
  rw [f1, ht]
  refine ⟨k2, hF.kd mf3, (f_multiply (d := d + 2) t1 h.1 hF mf3 (by omega)).mono (fun M3 k => ?_)⟩
  obtain ⟨c1, v1⟩ := k
  obtain ⟨n1, H1⟩ := h.st (Or.inr (Or.inr rfl)) c1
  have a1 := (c1.num hF mf1 (fun e => f13 e.symm)).2.2.2
  refine ⟨c1.ok, H1.2.2.2.1.1, fun M7 e7 => ?_⟩
  obtain ⟨n2, t2, vv⟩ := nl_times (T := Tre z f) (I := fun x => x = f) (r := False) (z := z) c1.ok H1.2.1 H1.2.2.2 H1.2.2.1.z9 ⟨by decide, by decide⟩ e7 h.tre rfl H1.iw
  have H2 := H1.nl n2
  have N2 := n1.trans n2
  have F2 := H2.2.1
  have A2 : nv M7 (f + 1) = nv M (f + 1) := by rw [vv _ mf1, a1.2.1]
  have V2 : nv M7 (f + 3) = t * nv M (f + 3) := by rw [vv _ mf3, v1]
  have Vn := hF.nn0 mf3
  have Vp : 0 < nv M (f + 3) → 0 < t * nv M (f + 3) := fun V0 => Int.mul_pos (by omega) V0
  obtain ⟨⟨k1, k2⟩, ⟨r2, r3⟩, ⟨f0, f1⟩, -⟩ := H2.pl
  rw [f0, f1, (F2.nt mf1).2.1]
  refine ⟨F2.kd mf1, fun y => ⟨F2.kd mf3, (f_put0 (d := d + 4) ⟨by decide, by decide⟩ H2.1 F2 mf3).mono (fun M13 k => ?_)⟩, fun y => ⟨k1, ?_⟩⟩
  · obtain ⟨c3, v3⟩ := k
    obtain ⟨n3, H3⟩ := H2.st (Or.inr (Or.inr rfl)) c3
    have z0 : nv M7 (f + 1) = 0 := (F2.sz0 mf1).1 (by omega)
    have z1 := (c3.v F2 mf1 (fun e => f13 e.symm)).trans z0
    have ti : mI M13 f = mI M7 f := ((c3.nl (I := fun _ => False) (r := False) noI H2.2.2.1.z9).frp F2 H2.2.2.2.1).2 (fun e => e)
    exact ⟨c3.ok, N2.trans n3, by rw [ti]; exact t2, fun _ => by rw [v3]; decide, by rw [z1]; exact A0, fun V0 => by rw [v3]; exact Vp V0, fun _ => by rw [z1, v3]; decide, Or.inl (by rw [v3]; decide)⟩
  · have Ap : 0 < nv M (f + 1) := Classical.byContradiction (fun u => y (by
      have := (F2.sz0 mf1).2 (by rw [A2]; omega)
      omega))
    have sv : sz M7 (f + 3) ≤ s + 1 := F2.szv mf3 (by rw [V2]; exact (mul_sz ⟨Vn, Int.lt_of_lt_of_le (hF.vlt mf3) (p30m s3)⟩ t1).2)
    have sa : sz M7 (f + 1) ≤ s := F2.szv mf1 (by rw [A2]; exact Int.lt_of_lt_of_le (hF.vlt mf1) (p30m s1))
    have h1 := hW (z + 1) (Or.inl (Or.inl rfl))
    have h3 := hW (z + 3) (Or.inl (Or.inr (Or.inl rfl)))
    have h5 := hW (z + 5) (Or.inl (Or.inr (Or.inr (Or.inl rfl))))
    have h7 := hW (z + 7) (Or.inl (Or.inr (Or.inr (Or.inr rfl))))
    refine (f_common (d := d) (S := s + 1) H2.1 F2 H2.2.2.1 mf1 mf3 nf.1 nf.2 (Or.inl (by rw [A2]; exact Ap)) (by omega) sv (by omega) ⟨h1, h3, h5, h7⟩).mono (fun r M17 k => ?_)
    obtain ⟨er, N17, q0, d1, d2, -⟩ := k
    have n3 : NL L W (Tre z f) (fun x => x = f) False z M7 M17 := N17.mono F2 (fun t ht => Or.inl ht) h.tre (fun _ e => e.elim) H2.iw (fun e => e)
    have H3 := H2.nl n3
    have A3 := (N17.num F2 mf1 nf.1).2
    have V3 := (N17.num F2 mf3 nf.2).2
    have t3 : mI M17 f 2 = 1 := by rw [(N17.frp F2 H2.2.2.2.1).2 (fun e => e)]; exact t2
    have mr : r ∈ L := h.2.2.1.t4 r (er.elim Or.inl (fun e => Or.inr (Or.inl e)))
    rw [A2] at A3 d1
    rw [V2] at V3 d2
    refine ⟨H3.1, H3.2.1.kd mr, (s_Na_isOne (d := d + 4) H3.1 (H3.2.1.nt mr)).mono (fun x22 M21 k => ?_)⟩
    obtain ⟨e21, x01, -⟩ := k
    rw [e21]
    refine ⟨m_b32 x01, H3.1, fun _ => ?_, fun _ => ?_⟩
    · exact s_rdDiv (d := d) (s := s + 3) H3 er nf A3.2 V3.2 rfl q0 d1 d2 Ap (by omega) (by omega) w1 w3 h5 h7 (fun M' Q1 Q2 g1 g2 g3 g4 g5 g6 g7 g8 => by
        have hq : 1 ≤ nv M17 r := q0
        have m1 := Int.mul_le_mul_of_nonneg_right hq g7
        have m2 := Int.mul_le_mul_of_nonneg_right hq g8
        have Q2p : 0 < nv M (f + 3) → 0 < Q2 := fun V0 => Classical.byContradiction (fun u => by
          have V1 := Vp V0
          have : Q2 = 0 := by omega
          rw [this, Int.mul_zero] at g6
          omega)
        refine ⟨(N2.trans n3).trans g1, by rw [g2]; exact t3, fun V0 => by rw [g4]; exact Q2p V0, by rw [g3]; omega, fun _ => by rw [g4]; omega, fun le => ?_, Or.inr (by rw [g4]; omega)⟩
        rw [g3, g4]
        rw [g5, g6] at le
        exact Int.le_of_mul_le_mul_left le q0)
    · exact ⟨N2.trans n3, t3, fun V0 => by rw [V3.2]; exact Vp V0, by rw [A3.2]; exact Int.le_refl _, fun _ => by rw [V3.2]; exact Int.le_refl _, fun le => by rw [A3.2, V3.2]; exact le, Or.inr (by rw [V3.2]; exact Int.le_refl _)⟩
end NCI
