/-! The class's Solver: cells that stay the same; the place of the list of other commands. -/
section NBYB
variable {G : mG} {d t g s b e f i j a n cn cc bc z w x Y Cy R k O : Nat} {M M0 M' M1 : mM} {L L' : List Nat} {W : Nat → Nat} {T C S Z : Nat → Prop} {r : Prop}
/-- a cell is the same (but for longs) -/
def Sm (M M' : mM) (x : Nat) : Prop := mK M' x = mK M x ∧ mN M' x = mN M x ∧ mR M' x = mR M x ∧ mI M' x = mI M x
theorem Nt.sm (h : Nt M a Y Cy n) (ha : Sm M M' a) (hY : Sm M M' Y) (hz : mZ M ≤ mZ M') : Nt M' a Y Cy n := by
  obtain ⟨⟨l0, p0, kX, nX, e, ne, y1, y2⟩, g1, g2, g3, g4⟩ := h
  exact ⟨⟨by rw [ha.1]; exact l0, by rw [ha.2.2.1]; exact p0, by rw [hY.1]; exact kX, by rw [hY.2.1]; exact nX, e, ne, by omega, by omega⟩, by rw [ha.2.2.2]; exact g1, g2, fun j hj => by rw [hY.2.2.2]; exact g3 j hj, by rw [hY.2.2.2]; exact g4⟩
theorem NF.sm (h : NF L W M) (hs : ∀ a, a ∈ L → Sm M M' a ∧ Sm M M' (mR M a 0)) (hz : mZ M ≤ mZ M') : NF L W M' ∧ ∀ a, a ∈ L → nv M' a = nv M a ∧ cp M' a = cp M a ∧ mR M' a = mR M a := by
  have cc : ∀ a, a ∈ L → cp M' a = cp M a := fun a ha => by
    unfold cp
    rw [(hs a ha).1.2.2.1, (hs a ha).2.2.1]
  have nt' : ∀ a, a ∈ L → Nt M' a (mR M a 0) (cp M a) (sz M a) := fun a ha => (h.nt ha).sm (hs a ha).1 (hs a ha).2 hz
  refine ⟨⟨h.1, fun a ha => ⟨(nt' a ha).nn, by rw [cc a ha]; exact (h.2.1 a ha).2.1, (h.2.1 a ha).2.2⟩, fun a b ha hb u => h.2.2 a b ha hb (by rw [← (hs a ha).1.2.2.1, ← (hs b hb).1.2.2.1]; exact u)⟩, fun a ha => ⟨?_, cc a ha, (hs a ha).1.2.2.1⟩⟩
  rw [(nt' a ha).nv, (h.nt ha).nv, (hs a ha).2.2.2.2]
theorem Oc.sm (h : Oc L M x) (hr : ∀ a, a ∈ L → mR M' a = mR M a) (hz : mZ M ≤ mZ M') : Oc L M' x := ⟨Nat.lt_of_lt_of_le h.1 hz, h.2.1, fun a ha u => h.2.2 a ha (by rw [← hr a ha]; exact u)⟩
theorem FrP.sm (h : FrP M f) (hs : Sm M M' f) (hz : mZ M ≤ mZ M') : FrP M' f := ⟨by rw [hs.1]; exact h.1, by rw [hs.2.2.1]; exact h.2.1, Nat.lt_of_lt_of_le h.2.2 hz⟩
theorem FrL.sm (h : FrL L M f) (hs : Sm M M' f) (hz : mZ M ≤ mZ M') : FrL L M' f := ⟨h.1.sm hs hz, h.2⟩
theorem SK.sm (h : SK L M z) (h0 : Sm M M' z) (h13 : Sm M M' (z + 13)) (h18 : Sm M M' (z + 18)) (h23 : Sm M M' (z + 23)) (hz : mZ M ≤ mZ M') : SK L M' z := by
  obtain ⟨⟨k1, k2⟩, k3, k4, ⟨k5, k6, k7⟩, ⟨k8, k9⟩, k10, k11⟩ := h
  exact ⟨⟨by rw [h0.1]; exact k1, by omega⟩, by rw [h0.2.2.1]; exact k3, by rw [h0.2.2.1]; exact k4, ⟨by rw [h13.1]; exact k5, by rw [h13.2.1]; exact k6, by omega⟩, ⟨k8.sm h18 hz, k9.sm h23 hz⟩, k10, k11⟩
theorem RsK.sm (h : RsK L M e) (hs : ∀ i, i ≤ 6 → Sm M M' (e + i)) (hr : ∀ a, a ∈ L → mR M' a = mR M a) (hz : mZ M ≤ mZ M') : RsK L M' e := by
  obtain ⟨⟨c0, c1, c2, c3⟩, c4, c5, c6⟩ := h
  have s0 := hs 0 (by decide)
  rw [Nat.add_zero] at s0
  have s1 := hs 1 (by decide)
  have s2 := hs 2 (by decide)
  have s3 := hs 3 (by decide)
  have s4 := hs 4 (by decide)
  have s5 := hs 5 (by decide)
  have s6 := hs 6 (by decide)
  refine ⟨⟨by rw [s0.1]; exact c0, by rw [s0.2.2.1]; exact c1, by rw [s1.1, s2.1, s3.1, s4.1, s5.1, s6.1]; exact c2, by rw [s1.2.1, s2.2.1, s3.2.1, s4.2.1, s5.2.1, s6.2.1]; exact c3⟩, fun i hi => (c4 i hi).sm hr hz, fun i hi => by rw [s2.2.2.1]; exact c5 i hi, c6⟩
theorem st126 : Stb s (s + 126) := Or.inr (Or.inr (Or.inr (Or.inr (Or.inr (Or.inr (Or.inr (Or.inl rfl)))))))
theorem st124 : Stb s (s + 124) := Or.inr (Or.inr (Or.inr (Or.inr (Or.inr (Or.inl rfl)))))
theorem st30 : Stb s (s + 30) := Or.inr (Or.inr (Or.inl rfl))
/-- where the list of the other commands lies, and its length -/
def Ot (L : List Nat) (M : mM) (s O n : Nat) : Prop := (mR M s 11 = O ∧ mK M O = 30 ∧ mN M O = n) ∧ Oc L M O ∧ ((O = s + 127 ∧ n = 0) ∨ (s + 134 < O ∧ n = 2400))
theorem Ot.ne (h : Ot L M s O n) : O ≠ s + 1 ∧ O ≠ s := by
  have := h.2.2
  constructor <;> omega
theorem Ot.nx (h : Ot L M s O n) (q : NX L W T C r (s + 1) M M') (hF : NF L W M) (hs : Oc L M s) : Ot L M' s O n := by
  obtain ⟨n1, n2⟩ := h.ne
  obtain ⟨⟨h1, h2, h3⟩, h4, h5⟩ := h
  obtain ⟨a1, a2, -⟩ := q.oth h4 n1
  obtain ⟨-, -, b3, -⟩ := q.oth hs (by omega)
  exact ⟨⟨by rw [b3]; exact h1, by rw [a1]; exact h2, by rw [a2]; exact h3⟩, q.oc hF h4, h5⟩
theorem Ot.fi (h : Ot L M s O n) (f : FI S M M') : Ot L M' s O n := ⟨⟨by rw [f.2.2.1]; exact h.1.1, by rw [f.1]; exact h.1.2.1, by rw [f.2.1]; exact h.1.2.2⟩, h.2.1.fi f, h.2.2⟩
theorem Ot.gw (h : Ot L M s O n) (q : Gw L W a M L' M') (sa : s ≠ a) (hs : s < mZ M) : Ot L' M' s O n := by
  obtain ⟨⟨h1, h2, h3⟩, h4, h5⟩ := h
  have f := q.2.2.2.2.1
  have fs := f.2 s hs
  have fo := f.2 O h4.1
  exact ⟨⟨by rw [fs.2.2.2.1 sa]; exact h1, by rw [fo.1]; exact h2, by rw [fo.2.1]; exact h3⟩, q.oc h4, h5⟩
/-- a new list for the other commands -/
def Gro (s : Nat) (M M' : mM) : Prop := M' = mUR (mNew M 30 2400 2400) s 11 (mZ M)
theorem Gro.sm (h : Gro s M M') (hx : x < mZ M) (hs : x ≠ s) : Sm M M' x := by
  unfold Gro at h
  subst h
  have nz : ¬ x = mZ M := by omega
  refine ⟨if_neg nz, if_neg nz, ?_, ?_⟩
  · funext j
    show (if x = s ∧ j = 11 then mZ M else (if x = mZ M then 0 else mR M x j)) = mR M x j
    rw [if_neg (fun u => hs u.1), if_neg nz]
  · funext j
    show (if x = mZ M then 0 else mI M x j) = mI M x j
    exact if_neg nz
theorem Gro.own (h : Gro s M M') (hs : s < mZ M) : mK M' s = mK M s ∧ mN M' s = mN M s ∧ mI M' s = mI M s ∧ mR M' s 11 = mZ M ∧ ∀ j, j ≠ 11 → mR M' s j = mR M s j := by
  unfold Gro at h
  subst h
  have nz : ¬ s = mZ M := by omega
  refine ⟨if_neg nz, if_neg nz, ?_, if_pos ⟨rfl, rfl⟩, fun j hj => ?_⟩
  · funext j
    show (if s = mZ M then 0 else mI M s j) = mI M s j
    exact if_neg nz
  · show (if s = s ∧ j = 11 then mZ M else (if s = mZ M then 0 else mR M s j)) = mR M s j
    rw [if_neg (fun u => hj u.2), if_neg nz]
theorem Gro.lng (h : Gro s M M') (hx : x < mZ M) : mL M' x = mL M x := by
  unfold Gro at h
  subst h
  funext j
  show (if x = mZ M then 0 else mL M x j) = mL M x j
  exact if_neg (by omega)
theorem Gro.new (h : Gro s M M') : mK M' (mZ M) = 30 ∧ mN M' (mZ M) = 2400 ∧ mZ M' = mZ M + 1 ∧ mS M' = mS M + 2400 ∧ (mOk M → mOk M') := by
  unfold Gro at h
  subst h
  exact ⟨if_pos rfl, if_pos rfl, rfl, rfl, fun o => mOk_UR (mOk_New o)⟩
/-- the Solver with a new list -/
theorem Sva.gro (h : Sva L W s g a R k cn cc bc M) (hz : s + 134 < mZ M) (q : Gro s M M') : Sva L W s g a R k cn cc bc M' ∧ Ot L M' s (mZ M) 2400 ∧ (∀ b, b ∈ L → nv M' b = nv M b ∧ cp M' b = cp M b ∧ mR M' b = mR M b) ∧ (∀ x, x < mZ M → mI M' x = mI M x) ∧ mR M' R = mR M R := by
  obtain ⟨⟨o, ⟨s0, sr, sk, sn⟩, hG, ⟨g3, n3⟩, hT⟩, ⟨hF, hSK, hRs, hfw⟩, hSt, hgo, ⟨t1, t2, t3, t4, ⟨t5, t6⟩, t7⟩, hrow, hD⟩ := id h
  have zs := hSt s (Or.inl rfl)
  obtain ⟨w1, w2, w3, w4, w5⟩ := q.own zs.1
  obtain ⟨z1, z2, z3, z4, z5⟩ := q.new
  have hzz : mZ M ≤ mZ M' := by omega
  have hI : ∀ x, x < mZ M → mI M' x = mI M x := fun x hx => by
    by_cases c : x = s
    · rw [c]; exact w3
    · exact (q.sm hx c).2.2.2
  have st : ∀ x, Stb s x → x ≠ s → Sm M M' x := fun x hx nx => q.sm (hSt x hx).1 nx
  have e29 := st (s + 29) (Or.inr (Or.inl rfl)) (by omega)
  have e30 := st (s + 30) (Or.inr (Or.inr (Or.inl rfl))) (by omega)
  have e122 := st (s + 122) (Or.inr (Or.inr (Or.inr (Or.inl rfl)))) (by omega)
  have e123 := st (s + 123) (Or.inr (Or.inr (Or.inr (Or.inr (Or.inl rfl))))) (by omega)
  have e124 := st (s + 124) (Or.inr (Or.inr (Or.inr (Or.inr (Or.inr (Or.inl rfl)))))) (by omega)
  have e125 := st (s + 125) (Or.inr (Or.inr (Or.inr (Or.inr (Or.inr (Or.inr (Or.inl rfl))))))) (by omega)
  have e126 := st (s + 126) (Or.inr (Or.inr (Or.inr (Or.inr (Or.inr (Or.inr (Or.inr (Or.inl rfl)))))))) (by omega)
  have e128 := st (s + 128) (Or.inr (Or.inr (Or.inr (Or.inr (Or.inr (Or.inr (Or.inr (Or.inr (Or.inl rfl))))))))) (by omega)
  have e129 := st (s + 129) (Or.inr (Or.inr (Or.inr (Or.inr (Or.inr (Or.inr (Or.inr (Or.inr (Or.inr rfl))))))))) (by omega)
  have gs := s0.2
  have og : ∀ i, i ≤ 9 → Sm M M' (g + i) := fun i hi => q.sm (hgo i hi).1 (by omega)
  have g0 := og 0 (by decide)
  rw [Nat.add_zero] at g0
  have ls : ∀ b, b ∈ L → Sm M M' b ∧ Sm M M' (mR M b 0) := fun b hb => ⟨q.sm (hF.lt hb).1 (fun u => zs.2.1 (by rw [← u]; exact hb)), q.sm (hF.lt hb).2 (zs.2.2 b hb)⟩
  obtain ⟨F', nvs⟩ := hF.sm ls hzz
  have hr : ∀ b, b ∈ L → mR M' b = mR M b := fun b hb => (nvs b hb).2.2
  have na : a ≠ s := fun u => by rw [u, s0.1] at t1; exact absurd t1 (by decide)
  have nR : R ≠ s := fun u => by rw [u, s0.1] at t3; exact absurd t3 (by decide)
  have sa := q.sm t5.1 na
  have sR := q.sm t6.1 nR
  have rw7 : ∀ i, i < k → Sm M M' (mR M R i) := fun i hi => q.sm (t7 i hi).1.2.2 (by have := hrow i hi; omega)
  have kz := hSK.1.2
  have k13 := hSK.2.2.2.1.2.2
  have k18 := hSK.2.2.2.2.1.1.2.2
  have k23 := hSK.2.2.2.2.1.2.2.2
  refine ⟨⟨⟨z5 o, ⟨⟨by rw [w1]; exact s0.1, s0.2⟩, by rw [w5 0 (by decide), w5 1 (by decide), w5 2 (by decide), w5 3 (by decide), w5 4 (by decide), w5 5 (by decide), w5 6 (by decide), w5 7 (by decide), w5 8 (by decide), w5 9 (by decide), w5 15 (by decide), w5 16 (by decide), w5 17 (by decide)]; exact sr, by rw [e29.1, e30.1, e122.1, e123.1, e124.1, e125.1, e126.1, e128.1, e129.1]; exact sk, by rw [e29.2.1, e30.2.1, e122.2.1, e123.2.1, e124.2.1, e125.2.1, e126.2.1, e128.2.1, e129.2.1]; exact sn⟩, ⟨by rw [g0.1]; exact hG.1, by rw [g0.2.2.1]; exact hG.2.1, fun i hi hi' => by rw [(og i hi').1]; exact hG.2.2.1 i hi hi', by rw [(og 2 (by decide)).2.1, (og 4 (by decide)).2.1, (og 6 (by decide)).2.1, (og 7 (by decide)).2.1, (og 8 (by decide)).2.1, (og 9 (by decide)).2.1]; exact hG.2.2.2⟩, ⟨by rw [g0.2.2.1]; exact g3, by rw [(og 3 (by decide)).2.1]; exact n3⟩, hT.same (fun i hi => (og i hi).2.2.2)⟩, ⟨F', hSK.sm (q.sm kz (by omega)) (q.sm k13 (by omega)) (q.sm k18 (by omega)) (q.sm k23 (by omega)) hzz, hRs.sm (fun i hi => q.sm (hRs.2.1 i hi).1 (by omega)) hr hzz, hfw.sm (q.sm hfw.1.2.2 (by omega)) hzz⟩, fun x hx => (hSt x hx).sm hr hzz, fun i hi => (hgo i hi).sm hr hzz, ⟨by rw [sa.1]; exact t1, by rw [sa.2.2.1]; exact t2, by rw [sR.1]; exact t3, by rw [sR.2.1]; exact t4, ⟨t5.sm hr hzz, t6.sm hr hzz⟩, fun i hi => by rw [sR.2.2.1]; exact (t7 i hi).sm (rw7 i hi) hzz⟩, fun i hi => by rw [sR.2.2.1]; exact hrow i hi, fun i j hi hj ij => by rw [sR.2.2.1]; exact hD i j hi hj ij⟩, ⟨⟨w4, z1, z2⟩, ⟨by omega, fun u => by have := (hF.lt u).1; omega, fun b hb u => ?_⟩, Or.inr ⟨hz, rfl⟩⟩, nvs, hI, sR.2.2.1⟩
  rw [hr b hb] at u
  have := (hF.lt hb).2
  omega
end NBYB
