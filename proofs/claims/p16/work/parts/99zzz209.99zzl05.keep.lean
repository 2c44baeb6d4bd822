/-! The class's Solver: what its steps keep. -/
section NBR
variable {G : mG} {d s g z e a R cn cc bc i k n c lo hi un x f : Nat} {M M0 M' M1 M2 M3 : mM} {L : List Nat} {W : Nat → Nat} {T T' I C C' S : Nat → Prop} {r r' : Prop}
theorem NX.frl (h : NX L W T C r z M M') (hF : NF L W M) (hf : FrL L M f) : FrL L M' f ∧ (¬ C f → mI M' f = mI M f) := by
  obtain ⟨⟨k, p, l⟩, m1, m3⟩ := hf
  have z9 := h.2.1.2.2.2
  obtain ⟨a1, a2, a3, a4⟩ := h.oth (hF.ocf l k) (fun u => by rw [u, z9] at k; omega)
  exact ⟨⟨⟨by rw [a1]; exact k, by rw [a3]; exact p, Nat.lt_of_lt_of_le l h.2.2.1.1.1⟩, m1, m3⟩, a4⟩
theorem Sva.gC (h : Sva L W s g a R k cn cc bc M) (hn : n ≤ k) (hi : i ≤ 9) : ¬ Cso s M R n (g + i) := by
  have gs := h.1.2.1.1.2
  intro u
  unfold Cso Ipk Stb S36 Irw at u
  rcases u with u | u | u | u | u | ⟨j, hj, u⟩
  · omega
  · omega
  · omega
  · omega
  · omega
  · have := h.2.2.2.2.2.1 j (by omega)
    omega
theorem stb_n1 {s x : Nat} (hx : Stb s x) : x ≠ s + 1 := by unfold Stb at hx; omega
theorem s31_n1 (s i : Nat) : s + 31 + i ≠ s + 1 := by omega
theorem Sva.nxg (h : Sva L W s g a R k cn cc bc M) (q : NX L W T C r (s + 1) M M') (gC : ∀ i, i ≤ 9 → ¬ C (g + i)) (hS : SK L M' (s + 1)) : Sva L W s g a R k cn cc bc M' ∧ (∀ i, i ≤ 9 → mI M' (g + i) = mI M (g + i)) ∧ mR M' R = mR M R := by
  obtain ⟨⟨o, ⟨s0, sr, sk, sn⟩, hG, ⟨g3, n3⟩, hT⟩, ⟨hF, hSK, hR, hW⟩, hSt, hgo, ⟨t1, t2, t3, t4, ⟨t5, t6⟩, t7⟩, hrow, hD⟩ := id h
  have z9 := hSK.1.1
  have og : ∀ i, i ≤ 9 → _ := fun i hi => q.oth (hgo i hi) (fun e => (hG.kd hi).1 (by rw [e]; exact z9))
  have g0 := og 0 (by decide)
  rw [Nat.add_zero] at g0
  have os : ∀ x, Stb s x → mK M' x = mK M x ∧ mN M' x = mN M x ∧ mR M' x = mR M x := fun x hx => by
    have ne : x ≠ s + 1 := stb_n1 hx
    obtain ⟨a1, a2, a3, -⟩ := q.oth (hSt x hx) ne
    exact ⟨a1, a2, a3⟩
  have st : ∀ {x : Nat}, Stb s x → Stb s x := fun h => h
  have e0 := os s (Or.inl rfl)
  have e29 := os (s + 29) (Or.inr (Or.inl rfl))
  have e30 := os (s + 30) (Or.inr (Or.inr (Or.inl rfl)))
  have e122 := os (s + 122) (Or.inr (Or.inr (Or.inr (Or.inl rfl))))
  have e123 := os (s + 123) (Or.inr (Or.inr (Or.inr (Or.inr (Or.inl rfl)))))
  have e124 := os (s + 124) (Or.inr (Or.inr (Or.inr (Or.inr (Or.inr (Or.inl rfl))))))
  have e125 := os (s + 125) (Or.inr (Or.inr (Or.inr (Or.inr (Or.inr (Or.inr (Or.inl rfl)))))))
  have e126 := os (s + 126) (Or.inr (Or.inr (Or.inr (Or.inr (Or.inr (Or.inr (Or.inr (Or.inl rfl))))))))
  have e128 := os (s + 128) (Or.inr (Or.inr (Or.inr (Or.inr (Or.inr (Or.inr (Or.inr (Or.inr (Or.inl rfl)))))))))
  have e129 := os (s + 129) (Or.inr (Or.inr (Or.inr (Or.inr (Or.inr (Or.inr (Or.inr (Or.inr (Or.inr rfl)))))))))
  have ig : ∀ i, i ≤ 9 → mI M' (g + i) = mI M (g + i) := fun i hi => (og i hi).2.2.2 (gC i hi)
  have oe : ∀ i, i ≤ 6 → mK M' (s + 31 + i) = mK M (s + 31 + i) ∧ mN M' (s + 31 + i) = mN M (s + 31 + i) ∧ mR M' (s + 31 + i) = mR M (s + 31 + i) := fun i hi => by
    obtain ⟨a1, a2, a3, -⟩ := q.oth (hR.2.1 i hi) (s31_n1 s i)
    exact ⟨a1, a2, a3⟩
  have r0 := oe 0 (by decide)
  rw [Nat.add_zero] at r0
  have na : a ≠ s + 1 := fun u => by rw [u, z9] at t1; exact absurd t1 (by decide)
  have nR : R ≠ s + 1 := fun u => by rw [u, z9] at t3; exact absurd t3 (by decide)
  have oa := q.oth t5 na
  have oR := q.oth t6 nR
  have eR := oR.2.2.1
  refine ⟨⟨⟨q.ok, ⟨⟨by rw [e0.1]; exact s0.1, s0.2⟩, by rw [e0.2.2]; exact sr, by rw [e29.1, e30.1, e122.1, e123.1, e124.1, e125.1, e126.1, e128.1, e129.1]; exact sk, by rw [e29.2.1, e30.2.1, e122.2.1, e123.2.1, e124.2.1, e125.2.1, e126.2.1, e128.2.1, e129.2.1]; exact sn⟩, ⟨by rw [g0.1]; exact hG.1, by rw [g0.2.2.1]; exact hG.2.1, fun i hi hi' => by rw [(og i hi').1]; exact hG.2.2.1 i hi hi', by rw [(og 2 (by decide)).2.1, (og 4 (by decide)).2.1, (og 6 (by decide)).2.1, (og 7 (by decide)).2.1, (og 8 (by decide)).2.1, (og 9 (by decide)).2.1]; exact hG.2.2.2⟩, ⟨by rw [g0.2.2.1]; exact g3, by rw [(og 3 (by decide)).2.1]; exact n3⟩, hT.same ig⟩, ⟨q.nf, hS, ?_, (q.frl hF hW).1⟩, fun x hx => q.oc hF (hSt x hx), fun i hi => q.oc hF (hgo i hi), ⟨by rw [oa.1]; exact t1, by rw [oa.2.2.1]; exact t2, by rw [oR.1]; exact t3, by rw [oR.2.1]; exact t4, ⟨q.oc hF t5, q.oc hF t6⟩, fun i hi => by rw [eR]; exact (q.frl hF (t7 i hi)).1⟩, fun i hi => by rw [eR]; exact hrow i hi, fun i j hi hj ij => by rw [eR]; exact hD i j hi hj ij⟩, ig, eR⟩
  obtain ⟨⟨c0, c1, c2, c3⟩, c4, c5, c6⟩ := hR
  refine ⟨⟨by rw [r0.1]; exact c0, by rw [r0.2.2]; exact c1, by rw [(oe 1 (by decide)).1, (oe 2 (by decide)).1, (oe 3 (by decide)).1, (oe 4 (by decide)).1, (oe 5 (by decide)).1, (oe 6 (by decide)).1]; exact c2, by rw [(oe 1 (by decide)).2.1, (oe 2 (by decide)).2.1, (oe 3 (by decide)).2.1, (oe 4 (by decide)).2.1, (oe 5 (by decide)).2.1, (oe 6 (by decide)).2.1]; exact c3⟩, fun i hi => q.oc hF (c4 i hi), fun i hi => by rw [(oe 2 (by decide)).2.2]; exact c5 i hi, c6⟩
theorem Sva.nx (h : Sva L W s g a R k cn cc bc M) (hn : n ≤ k) (q : NX L W (Tso s M R n) (Cso s M R n) r (s + 1) M M') (hS : SK L M' (s + 1)) : Sva L W s g a R k cn cc bc M' ∧ (∀ i, i ≤ 9 → mI M' (g + i) = mI M (g + i)) ∧ mR M' R = mR M R := h.nxg q (fun i hi => h.gC hn hi) hS
/-- steps that leave the Scales' references -/
theorem NX.sk (h : NX L W T C False z M M') (hF : NF L W M) (hS : SK L M z) : SK L M' z := by
  obtain ⟨⟨k1, k2⟩, k3, k4, ⟨k5, k6, k7⟩, ⟨k8, k9⟩, k10, k11⟩ := hS
  have zz := h.2.2.1.1.1
  have rz : mR M' z = mR M z := (h.2.2.1.2 z k2).2.2.2.1 (fun u => u.elim (fun u => (hF.nz k1 (h.2.1.1 z u)).1 rfl) (fun u => u.2))
  have o13 : Oc L M (z + 13) := ⟨k7, fun u => by have := hF.kd u; rw [k5] at this; omega, fun a ha u => by have := hF.ka ha; rw [u, k5] at this; omega⟩
  obtain ⟨a1, a2, -⟩ := h.oth o13 (by omega)
  have f8 := (h.frl hF (f := z + 18) ⟨k8, k11.1, k11.2.1⟩).1
  have f9 := (h.frl hF (f := z + 23) ⟨k9, k11.2.2.1, k11.2.2.2⟩).1
  exact ⟨⟨by rw [h.kind k2]; exact k1, Nat.lt_of_lt_of_le k2 zz⟩, by rw [rz]; exact k3, by rw [rz]; exact k4, ⟨by rw [a1]; exact k5, by rw [a2]; exact k6, Nat.lt_of_lt_of_le k7 zz⟩, ⟨f8.1, f9.1⟩, k10, k11⟩
end NBR
