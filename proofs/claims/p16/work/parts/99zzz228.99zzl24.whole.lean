/-! The class's top: print as a whole. -/
section NCK
variable {G : mG} {d t g s b f n h pr v0 v1 v2 R0 R1 R2 k0 k1 k2 cn cc bc : Nat} {M M0 M' M1 : mM} {L : List Nat} {W : Nat → Nat}
theorem s_CA_print {l1 l2 : Int} (i1 : i32 l1) (i2 : i32 l2) (hF : NF L W M) (hS : SK L M (s + 1)) (h0 : Tg M t g cn cc bc) (hh : Shn L M t s n h b) (hp : Prt L M t pr n) (h3 : Tv3 L M t b v0 v1 v2 R0 R1 R2 k0 k1 k2 cn) (hW : ∀ x, Tre (s + 1) h x → 20 ≤ W x) (wn : 17 ≤ W n) : Ci G y_CA_print (d + 6) [vr t, vi l1, vi l2] M (prQ L W s t pr n h M) := by
  have h1 := h0.1
  obtain ⟨⟨a1, a2, a3, a4⟩, ⟨b1, b2⟩, ⟨c1, c2⟩, -, ⟨e1, e2, e3⟩⟩ := id hh
  have w1 := hW (h + 1) (Or.inr (Or.inl rfl))
  have w3 := hW (h + 3) (Or.inr (Or.inr rfl))
  have pz : pr ≠ s + 1 := fun e => by
    have u1 := hp.2.1.1
    have u2 := hS.1.1
    rw [e, u2] at u1
    exact absurd u1 (by decide)
  have ph : pr ≠ h := fun e => by
    have u1 := hp.2.1.1
    have u2 := c2.1.1
    rw [e, u2] at u1
    exact absurd u1 (by decide)
  have th : t ≠ h := fun e => by
    have u2 := c2.1.1
    rw [e, u2] at a1
    exact absurd a1 (by decide)
  have nz : t ≠ s + 1 ∧ pr ≠ s + 1 := ⟨hh.2.2.2.1.2.2, pz⟩
  refine k_CA_print h1 i1 i2 ⟨a1, (s_fo1 (d := d + 4) i1 i2 hF h0 h3).mono (fun f M2 q => ?_)⟩
  obtain ⟨e, r1⟩ := q
  subst e
  refine ⟨h1, fun _ => ⟨⟨by decide, by decide⟩, Or.inl rfl⟩, fun u => ?_⟩
  obtain ⟨x1, x2, x3, x4, x5⟩ := r1 u
  rw [a4]
  have y1 := x3.1
  have y2 := x3.2.1
  refine ⟨a1, c2.1.1, (f_Fr_put1 (d := d + 3) (z := s + 1) h1 hF c2 x1 (by omega) (by omega) (by omega) ⟨hS.1.2, hS.1.1⟩ (by omega) (by omega)).mono (fun M9 q => ?_)⟩
  obtain ⟨q1, q2, q3, q4⟩ := q
  have X9 := q1.nx hF
  have S9 := hh.nx X9 hF
  have F9 := X9.nf
  have K9 := X9.sk hF hS
  have P9 := hp.nx2 X9 hF nz ph
  obtain ⟨⟨a1', a2', a3', a4'⟩, ⟨b1', b2'⟩, ⟨c1', c2'⟩, -⟩ := id S9
  have t4 : ∀ x, s + 134 < x → ¬ T4 (s + 1) x := fun x hx w => by unfold T4 at w; omega
  have z1 : sz M9 (h + 1) ≤ 17 := F9.szv c2'.2.1 (by rw [q2]; exact x4.1)
  have z3 : sz M9 (h + 3) ≤ 17 := F9.szv c2'.2.2 (by rw [q3]; exact x4.2)
  rw [a2', a4', b2']
  refine ⟨q1.ok, a1', b1', K9.1.1, (f_reduce3 (d := d) (t := 1) (s := 17) ⟨q1.ok, F9, K9, c2'⟩ ⟨t4 _ (by omega), t4 _ (by omega)⟩ (by rw [q4]; exact x5) ⟨by decide, by decide⟩ z1 z3 (by decide) hW).mono (fun M15 q => ?_)⟩
  obtain ⟨r1, -, -, r4, -, -, r7⟩ := q
  have X15 := r1.nx F9
  have S15 := S9.nx X15 F9
  have P15 := P9.nx2 X15 F9 nz ph
  have K15 := X15.sk F9 K9
  have hA : nv M15 (h + 1) < 2 ^ (30 * 17) := by
    rw [q2] at r4
    exact Int.lt_of_le_of_lt r4 x4.1
  have hB : nv M15 (h + 3) < 2 ^ (30 * 17) := by
    rcases r7 with w | w
    · exact Int.lt_of_le_of_lt w (by decide +kernel)
    · rw [q3, Int.one_mul] at w
      exact Int.lt_of_le_of_lt w x4.2
  obtain ⟨-, -, -, -, -, ⟨j1, j3, j5, j7, -⟩, -⟩ := id hS
  have TL : ∀ x, Tsh s n h x → x ∈ L := fun x hx => by
    rcases hx with (w | w | w | w) | w | w | w
    · rw [w]; exact j1
    · rw [w]; exact j3
    · rw [w]; exact j5
    · rw [w]; exact j7
    · rw [w]; exact c1
    · rw [w]; exact c2.2.1
    · rw [w]; exact c2.2.2
  have O0 : ∀ x, Csh t pr h x → Oc L M2 x := fun x hx => by
    rcases hx with w | w | w
    · rw [w]; exact hp.2.2.1.1
    · rw [w]; exact hp.2.2.1.2.1
    · exact X9.2.1.2.1 x w
  have O9 : ∀ x, Csh t pr h x → Oc L M9 x := fun x hx => X9.oc hF (O0 x hx)
  have O15 : ∀ x, Csh t pr h x → Oc L M15 x := fun x hx => X15.oc F9 (O9 x hx)
  have Y1 : NX L W (Tsh s n h) (Csh t pr h) False (s + 1) M2 M9 := X9.mono hF (fun x w => Or.inr (Or.inr w)) TL (fun x w => Or.inr (Or.inr w)) O0 id
  have Y2 : NX L W (Tsh s n h) (Csh t pr h) False (s + 1) M9 M15 := X15.mono F9 (fun x w => w.elim Or.inl (fun w => Or.inr (Or.inr w))) TL (fun x w => Or.inr (Or.inr w)) O9 id
  have ot9 := X9.oth hp.2.2.1.1 nz.1
  have ot15 := X15.oth P9.2.2.1.1 nz.1
  refine ⟨X15.ok, s_pr15 (d := d + 3) X15.ok X15.nf K15 S15 P15 pz hA hB wn (fun x M' ix XM PM hc oi => ⟨ix, Or.inr ⟨(Y1.trans Y2).trans (XM.mono X15.nf (fun x w => Or.inr (Or.inl w)) TL (fun x w => w.elim Or.inl (fun w => Or.inr (Or.inl w))) O15 id), PM, hc, fun i hi => ?_⟩⟩)⟩
  rw [oi i hi, ot15.2.2.2 th, ot9.2.2.2 th]
end NCK
