/-! The Scales: fitting, whole parts, picking. -/
section NAZ
variable {G : mG} {d b c z n m w S x y B u g a R cn f s : Nat} {M M0 M' M1 M2 M3 : mM} {L : List Nat} {W : Nat → Nat} {T T' I I' : Nat → Prop} {sh t : Int}
/-- what fitting leaves behind -/
def ftQ (L : List Nat) (W : Nat → Nat) (z f : Nat) (t A V : Int) (M : mM) (x : Int) (M' : mM) : Prop := NL L W (Tre z f) (fun x => x = f) False z M M' ∧ mI M' f 2 = 1 ∧ (0 < V → 0 < nv M' (f + 3)) ∧ (x = 0 ∨ x = 1) ∧ (x ≠ 0 → nv M' (f + 3) < 2 ^ 480) ∧ (A ≤ t * V → nv M' (f + 1) ≤ nv M' (f + 3)) ∧ (0 < V → nv M' (f + 1) * (t * V) = A * nv M' (f + 3) ∧ (x = 0 → ¬ ft9 ((A : Rat) * ((t * V : Int) : Rat)⁻¹)))
theorem s_ft74 {A V : Int} (h : Rds L W z f M) (N : NL L W (Tre z f) (fun x => x = f) False z M0 M) (t2 : mI M f 2 = 1) (V0 : 0 < V → 0 < nv M (f + 3)) (le : A ≤ t * V → nv M (f + 1) ≤ nv M (f + 3)) (ex : 0 < V → nv M (f + 1) * (t * V) = A * nv M (f + 3) ∧ (2 ^ 480 ≤ nv M (f + 3) → ¬ ft9 ((A : Rat) * ((t * V : Int) : Rat)⁻¹))) : h_Sc_fits_74 G (d + 1) f M (ftQ L W z f t A V M0) := by
  obtain ⟨⟨k1, k2⟩, -, ⟨f0, f1⟩, -, -, mf1, mf3⟩ := h.pl
  refine k_Sc_fits_74 h.1 ?_
  rw [f1]
  refine ⟨k2, h.2.1.kd mf3, (s_Na_bits (d := d) h.1 (h.2.1.nt mf3)).mono (fun x M37 k => ?_)⟩
  obtain ⟨e, n, en, n1, n2, n3, n4⟩ := k
  have cb := h.2.1.cb mf3
  have sc := h.2.1.sc mf3
  have n2' : nv M (f + 3) < 2 ^ n := n2
  rw [e]
  refine ⟨⟨by omega, by omega⟩, h.1, fun v41 e41 => ⟨N, t2, V0, ?_, fun v0 => ?_, le, fun vp => ⟨(ex vp).1, fun v0 => (ex vp).2 ?_⟩⟩⟩
  · rw [e41]; split <;> omega
  · by_cases c : 480 < x
    · rw [if_pos c] at e41; exact absurd e41 v0
    · exact Int.lt_of_lt_of_le n2' (p2m (by omega))
  · by_cases c : 480 < x
    · have s0 : 0 < sz M (f + 3) := Classical.byContradiction (fun z => by
        have := n4 (by omega)
        omega)
      have n3' : 2 ^ (n - 1) ≤ nv M (f + 3) := (n3 s0).2
      exact Int.le_trans (p2m (by omega)) n3'
    · rw [if_neg c, v0] at e41
      exact absurd e41 (by decide)
theorem f_fits (h : Rds L W z f M) (nf : ¬ T4 z (f + 1) ∧ ¬ T4 z (f + 3)) (ht : mI M f 2 = t) (t1 : 1 ≤ t ∧ t < 1073741824) (s1 : sz M (f + 1) ≤ s) (s3 : sz M (f + 3) ≤ s) (hs : s ≤ 14000) (hW : ∀ x, Tre z f x → s + 4 ≤ W x) : Ci G y_Sc_fits (d + 6) [vr z, vr f] M (ftQ L W z f t (nv M (f + 1)) (nv M (f + 3)) M) := by
  obtain ⟨⟨k1, k2⟩, ⟨r2, r3⟩, ⟨f0, f1⟩, m5, m7, mf1, mf3⟩ := h.pl
  have hF := h.2.1
  have w3 := hW _ (Or.inr (Or.inr rfl))
  have f13 : f + 3 ≠ f + 1 := nez (by decide)
  have A0 := hF.nn0 mf1
  refine k_Sc_fits h.1 ?_
  rw [f1, ht]
  refine ⟨k2, hF.kd mf3, (f_multiply (d := d + 3) t1 h.1 hF mf3 (by omega)).mono (fun M3 k => ?_)⟩
  obtain ⟨c1, v1⟩ := k
  obtain ⟨n1, H1⟩ := h.st (Or.inr (Or.inr rfl)) c1
  have a1 := (c1.num hF mf1 (fun e => f13 e.symm)).2.2.2
  refine ⟨c1.ok, H1.2.2.2.1.1, fun M7 e7 => ?_⟩
  obtain ⟨n2, t2, vv⟩ := nl_times (T := Tre z f) (I := fun x => x = f) (r := False) (z := z) c1.ok H1.2.1 H1.2.2.2 H1.2.2.1.z9 ⟨by decide, by decide⟩ e7 h.tre rfl H1.iw
  have H2 := H1.nl n2
  have N2 := n1.trans n2
  have F2 := H2.2.1
  have A2 : nv M7 (f + 1) = nv M (f + 1) := by rw [vv _ mf1, a1.2.1]
  have V2 : nv M7 (f + 3) = t * nv M (f + 3) := by rw [vv _ mf3, v1]
  have Vn := hF.nn0 mf3
  have Vp : 0 < nv M (f + 3) → 0 < t * nv M (f + 3) := fun V0 => Int.mul_pos (by omega) V0
  have sv : sz M7 (f + 3) ≤ s + 1 := F2.szv mf3 (by rw [V2]; exact (mul_sz ⟨Vn, Int.lt_of_lt_of_le (hF.vlt mf3) (p30m s3)⟩ t1).2)
  have sa : sz M7 (f + 1) ≤ s := F2.szv mf1 (by rw [A2]; exact Int.lt_of_lt_of_le (hF.vlt mf1) (p30m s1))
  obtain ⟨⟨k1, k2⟩, ⟨r2, r3⟩, ⟨f0, f1⟩, -⟩ := H2.pl
  have pt : ∀ {M8 : mM} {v : Int}, (v = 0 ∨ v = 1) → v * (t * nv M (f + 3)) = nv M (f + 1) → (NL L W (T2 f) (fun x => x = f) False z M7 M8 ∧ nv M8 (f + 1) = v ∧ nv M8 (f + 3) = 1 ∧ mI M8 f 2 = 1) → mOk M8 ∧ h_Sc_fits_74 G (d + 5) f M8 (ftQ L W z f t (nv M (f + 1)) (nv M (f + 3)) M) := by
    intro M8 v hv hA k
    obtain ⟨n3, p1, p3, p2⟩ := k
    have n3' : NL L W (Tre z f) (fun x => x = f) False z M7 M8 := n3.mono F2 (fun t ht => Or.inr ht) h.tre (fun _ e => e) H2.iw (fun e => e)
    exact ⟨n3.ok, s_ft74 (d := d + 4) (H2.nl n3') (N2.trans n3') p2 (fun _ => by rw [p3]; decide) (fun _ => by rw [p1, p3]; omega) (fun _ => ⟨by rw [p1, p3, Int.mul_one]; exact hA, fun u => by rw [p3] at u; exact absurd u (by decide +kernel)⟩)⟩
  rw [f0, f1, (F2.nt mf1).2.1]
  refine ⟨F2.kd mf1, fun y => (f_Fr_put0 (d := d + 4) ⟨by decide, by decide⟩ H2.1 F2 H2.2.2.2 H2.2.2.1.z9).mono (fun M12 k => pt (Or.inl rfl) (by rw [Int.zero_mul, ← A2]; exact ((F2.sz0 mf1).1 (by omega)).symm) k), fun y => (f_order (d := d + 5) H2.1 F2 mf1 mf3).mono (fun x16 M15 k => ?_)⟩
  obtain ⟨e15, ox⟩ := k
  rw [e15, f1]
  refine ⟨by unfold orQ at ox; exact ⟨by omega, by omega⟩, H2.1, fun y => ⟨k2, (f_Fr_put0 (d := d + 4) ⟨by decide, by decide⟩ H2.1 F2 H2.2.2.2 H2.2.2.1.z9).mono (fun M21 k => pt (Or.inr rfl) (by
    rw [A2, V2] at ox
    unfold orQ at ox
    rw [Int.one_mul]
    omega) k)⟩, fun y => ⟨k2, F2.kd mf3, (s_Na_bits (d := d + 4) H2.1 (F2.nt mf3)).mono (fun x27 M26 k => ?_)⟩⟩
  obtain ⟨e26, nb, en, nb1, nb2, -⟩ := k
  have nb2' : nv M7 (f + 3) < 2 ^ nb := nb2
  have cb := F2.cb mf3
  have sc := F2.sc mf3
  rw [e26]
  refine ⟨⟨by omega, by omega⟩, H2.1, fun le9 => s_ft74 (d := d + 4) H2 N2 t2 (fun V0 => by rw [V2]; exact Vp V0) (fun le => by rw [A2, V2]; exact le) (fun _ => ⟨by rw [A2, V2], fun u => by
    have := Int.lt_of_lt_of_le nb2' (p2m (show nb ≤ 480 by omega))
    omega⟩), fun _ => ⟨k1, (f_reduce (d := d) (s := s + 1) (t := 1) H2 nf t2 ⟨by decide, by decide⟩ (by omega) sv (by omega) (fun x hx => by have := hW x hx; omega)).mono (fun M32 k => ?_)⟩⟩
  obtain ⟨n4, p1, p2, p3, p4, p5, p6, p7⟩ := k
  refine ⟨n4.ok, s_ft74 (d := d + 4) (H2.nl n4) (N2.trans n4) p1 (fun V0 => p2 (by rw [V2]; exact Vp V0)) (fun le => p5 (by rw [A2, V2, Int.one_mul]; exact le)) (fun V0 => ?_)⟩
  have V0' : 0 < nv M7 (f + 3) := by rw [V2]; exact Vp V0
  have p7' := p7 V0'
  have p2' := p2 V0'
  rw [Int.one_mul, A2, V2] at p6
  exact ⟨p6, fun u => nft_of (rat_cross (Vp V0) p6) (n4.nf.nn0 mf1) p2' p7' (Or.inr u)⟩
/-- how often a divisor is in a number -/
theorem f_wholePart (hO : mOk M) (hF : NF L W M) (hS : SK L M z) (ha : a ∈ L) (hb : b ∈ L) (ab : a ≠ b) (na : ¬ T4 z a) (nb : ¬ T4 z b) (b0 : 0 < nv M b) (wa : sz M a + 2 ≤ W a) (w5 : sz M a + 1 ≤ W (z + 5)) (w7 : sz M b + 1 ≤ W (z + 7)) : Ci G y_Sc_wholePart (d + 4) [vr z, vr a, vr b] M (fun x M' => NC L W (fun x => x = a ∨ x = z + 5 ∨ x = z + 7) M M' ∧ nv M' a < nv M b ∧ 0 ≤ x ∧ x < 1073741824 ∧ nv M a = nv M b * nv M' (z + 5) + nv M' a ∧ (nv M' (z + 5) < 1073741824 → x = nv M' (z + 5))) := by
  obtain ⟨⟨k1, k1'⟩, ⟨-, -, r2, r3, -⟩, -, -, -, ⟨-, -, m5, m7, -⟩, -⟩ := id hS
  have a5 : a ≠ z + 5 := fun e => na (Or.inr (Or.inr (Or.inl e)))
  have a7 : a ≠ z + 7 := fun e => na (Or.inr (Or.inr (Or.inr e)))
  have b5 : b ≠ z + 5 := fun e => nb (Or.inr (Or.inr (Or.inl e)))
  have b7 : b ≠ z + 7 := fun e => nb (Or.inr (Or.inr (Or.inr e)))
  refine k_Sc_wholePart hO ?_
  rw [r2, r3]
  refine ⟨k1, hF.kd ha, (f_divide (d := d) hO hF ha hb m5 m7 ab a5 a7 b5 b7 (nez (by decide)) b0 wa w5 w7).mono (fun M3 k => ?_)⟩
  obtain ⟨c, v, l⟩ := k
  have hF3 := c.nf
  have hS3 := (c.nl (I := fun _ => False) (r := False) noI hS.z9).sk hF hS
  obtain ⟨⟨j1, -⟩, ⟨-, -, j2, -⟩, -⟩ := id hS3
  have t5 := hF3.nt m5
  have q := t5.1.2.2.2.2.1.1
  have cc : mN M3 (mR M3 (z + 5) 0) = cp M3 (z + 5) := rfl
  have q0 := hF3.nn0 m5
  rw [j2, t5.2.1, cc]
  refine ⟨c.ok, j1, hF3.kd m5, fun _ => ⟨hF3.ka m5, ⟨by omega, by omega⟩⟩, fun v11 e11 => ?_⟩
  by_cases u : sz M3 (z + 5) = 0
  · rw [if_pos (by omega)] at e11
    rw [e11]
    exact ⟨c, l, by decide, by decide, v, fun _ => ((hF3.sz0 m5).1 u).symm⟩
  · rw [if_neg (by omega)] at e11
    have lb := t5.2.2.2.1 0 (by omega)
    rw [e11]
    refine ⟨c, l, lb.1, lb.2, v, fun lt => ?_⟩
    have s1 : sz M3 (z + 5) ≤ 1 := hF3.szv m5 (by rw [show (2 : Int) ^ (30 * 1) = 1073741824 by decide]; exact lt)
    unfold nv
    rw [show sz M3 (z + 5) = 1 by omega]
    show _ = 0 + mI M3 (mR M3 (z + 5) 0) 0 * 2 ^ (30 * 0)
    rw [show (2 : Int) ^ (30 * 0) = 1 by decide]
    omega
end NAZ
