section
/-! The class's Solver: one frame for all its steps. -/
section NBQ
variable {G : mG} {d s g z e a R cn cc bc i k n c lo hi un x f : Nat} {M M0 M' M1 M2 M3 : mM} {L : List Nat} {W : Nat → Nat} {T T' I C C' S : Nat → Prop} {r r' : Prop}
/-- numbers of T, ints of the cells of C, the Scales' longs, and (where r) its own references -/
def NX (L : List Nat) (W : Nat → Nat) (T C : Nat → Prop) (r : Prop) (z : Nat) (M M' : mM) : Prop := (mOk M' ∧ NF L W M') ∧ ((∀ t, T t → t ∈ L) ∧ (∀ x, C x → Oc L M x) ∧ (z < mZ M ∧ mK M z = 9)) ∧ FD (fun x => nsS M T x ∨ C x) (fun x => T x ∨ (x = z ∧ r)) (fun x => x = z + 13 ∨ x + 1 = z) M M' ∧ (∀ t, T t → mR M' t 0 = mR M t 0 ∨ mZ M ≤ mR M' t 0) ∧ RmN L M M'
theorem NX.ok (h : NX L W T C r z M M') : mOk M' := h.1.1
theorem NX.nf (h : NX L W T C r z M M') : NF L W M' := h.1.2
theorem NX.kind (h : NX L W T C r z M M') (hx : x < mZ M) : mK M' x = mK M x := (h.2.2.1.2 x hx).1
theorem NX.num {b : Nat} (h : NX L W T C r z M M') (hF : NF L W M) (hb : b ∈ L) (hT : ¬ T b) : mR M' b = mR M b ∧ sz M' b = sz M b ∧ nv M' b = nv M b := by
  obtain ⟨-, ⟨h2, hC, hz⟩, h3, h4, -⟩ := h
  obtain ⟨z1, z2⟩ := hF.lt hb
  have n1 : ¬ (nsS M T b ∨ C b) := by
    rintro ((u | ⟨t, ht, u⟩) | u)
    · exact hT u
    · exact hF.na hb (h2 t ht) u
    · exact (hC b u).2.1 hb
  have n2 : ¬ (nsS M T (mR M b 0) ∨ C (mR M b 0)) := by
    rintro ((u | ⟨t, ht, u⟩) | u)
    · exact hF.na (h2 _ u) hb rfl
    · exact hT (by rw [hF.2.2 b t hb (h2 t ht) u]; exact ht)
    · exact (hC _ u).2.2 b hb rfl
  have a1 := (h3.2 b z1).2.2.2.1 (fun u => u.elim hT (fun u => (hF.nz hz.2 hb).1 u.1))
  have a2 := (h3.2 b z1).2.2.2.2 n1
  have a3 := (h3.2 _ z2).2.2.2.2 n2
  have a4 : sz M' b = sz M b := by unfold sz; rw [a2]
  exact ⟨a1, a4, by unfold nv; rw [a4, a1, a3]⟩
theorem NX.oc (h : NX L W T C r z M M') (hF : NF L W M) (hx : Oc L M x) : Oc L M' x := by
  refine ⟨Nat.lt_of_lt_of_le hx.1 h.2.2.1.1.1, hx.2.1, fun a ha u => ?_⟩
  by_cases c : T a
  · rcases h.2.2.2.1 a c with q | q
    · exact hx.2.2 a ha (by rw [← q]; exact u)
    · have := hx.1
      omega
  · rw [(h.num hF ha c).1] at u
    exact hx.2.2 a ha u
theorem NX.oth (h : NX L W T C r z M M') (hx : Oc L M x) (hz : x ≠ z) : mK M' x = mK M x ∧ mN M' x = mN M x ∧ mR M' x = mR M x ∧ (¬ C x → mI M' x = mI M x) := by
  obtain ⟨-, ⟨h2, -, -⟩, h3, -, -⟩ := h
  obtain ⟨a1, a2, a3, a4, a5⟩ := h3.2 x hx.1
  refine ⟨a1, a2, a4 (fun u => u.elim (fun u => hx.2.1 (h2 x u)) (fun u => hz u.1)), fun ni => a5 ?_⟩
  rintro ((u | ⟨t, ht, u⟩) | u)
  · exact hx.2.1 (h2 x u)
  · exact hx.2.2 t (h2 t ht) u.symm
  · exact ni u
theorem NX.trans (h : NX L W T C r z M M1) (k : NX L W T C r z M1 M2) : NX L W T C r z M M2 := by
  obtain ⟨-, h2, h3, h4, h5⟩ := h
  obtain ⟨k1, -, k3, k4, k5⟩ := k
  refine ⟨k1, h2, h3.trans2 k3 ?_ (fun _ _ y => y) (fun _ _ y => y), fun t ht => ?_, h5.trans k5⟩
  · intro x hx u
    rcases u with (u | ⟨t, ht, u⟩) | u
    · exact Or.inl (Or.inl u)
    · rcases h4 t ht with q | q
      · exact Or.inl (Or.inr ⟨t, ht, by rw [u, q]⟩)
      · omega
    · exact Or.inr u
  · rcases k4 t ht with q | q
    · rw [q]; exact h4 t ht
    · exact Or.inr (Nat.le_trans h3.1.1 q)
theorem NX.mono (h : NX L W T C r z M M1) (hr : NF L W M) (hT : ∀ t, T t → T' t) (hL : ∀ t, T' t → t ∈ L) (hC : ∀ x, C x → C' x) (hC' : ∀ x, C' x → Oc L M x) (rr : r → r') : NX L W T' C' r' z M M1 := by
  obtain ⟨h1, ⟨-, -, hz⟩, h3, h4, h5⟩ := h
  refine ⟨h1, ⟨hL, hC', hz⟩, h3.mono (fun x _ u => ?_) (fun x _ u => u.elim (fun u => Or.inl (hT x u)) (fun u => Or.inr ⟨u.1, rr u.2⟩)) (fun _ _ u => u), fun t ht => ?_, h5⟩
  · rcases u with (u | ⟨t, ht, u⟩) | u
    · exact Or.inl (Or.inl (hT x u))
    · exact Or.inl (Or.inr ⟨t, hT t ht, u⟩)
    · exact Or.inr (hC x u)
  · by_cases c : T t
    · exact h4 t c
    · refine Or.inl ?_
      rw [(h3.2 t (hr.lt (hL t ht)).1).2.2.2.1 (fun u => u.elim c (fun u => (hr.nz hz.2 (hL t ht)).1 u.1))]
theorem NX.refl (hO : mOk M) (h : NF L W M) (hT : ∀ t, T t → t ∈ L) (hC : ∀ x, C x → Oc L M x) (hz : z < mZ M ∧ mK M z = 9) : NX L W T C r z M M := ⟨⟨hO, h⟩, ⟨hT, hC, hz⟩, FD.refl, fun _ _ => Or.inl rfl, RmN.refl⟩
/-- a fraction's cell is another cell -/
theorem NF.ocf (hF : NF L W M) (hx : x < mZ M) (hk : mK M x = 11) : Oc L M x := ⟨hx, fun u => (hF.nI hk u).1 rfl, fun a ha => (hF.nI hk ha).2⟩
theorem NL.nx (h : NL L W T I r z M M') (hF : NF L W M) : NX L W T I r z M M' := by
  obtain ⟨h1, ⟨h2, hI, hz⟩, h3, h4, h5⟩ := h
  exact ⟨h1, ⟨h2, fun x u => hF.ocf (hI x u).1 (hI x u).2, hz⟩, h3.mono (fun _ _ u => u) (fun _ _ u => u) (fun _ _ u => Or.inl u), h4, h5⟩
theorem NR.nx (h : NR L W e M M') (hK : RsK L M e) (hz : z < mZ M ∧ mK M z = 9) : NX L W (Trs e) (S36 e) False z M M' := by
  obtain ⟨h1, h3, h4, h5⟩ := h
  exact ⟨h1, ⟨hK.tl, hK.s36, hz⟩, (h3.fd (D := fun x => x = z + 13 ∨ x + 1 = z)).mono (fun _ _ u => u) (fun _ _ u => Or.inl u) (fun _ _ u => u), h4, h5⟩
theorem NC.nx (h : NC L W T M M') (hC : ∀ x, C x → Oc L M x) (hz : z < mZ M ∧ mK M z = 9) : NX L W T C r z M M' := by
  obtain ⟨h1, h2, h3, h4, h5⟩ := h
  exact ⟨h1, ⟨h2, hC, hz⟩, (h3.fd (D := fun x => x = z + 13 ∨ x + 1 = z)).mono (fun _ _ u => Or.inl u) (fun _ _ u => Or.inl u) (fun _ _ u => u), h4, h5⟩
/-- ints of other cells change -/
theorem FI.nx (f : FI C M M') (o : mOk M') (hF : NF L W M) (hT : ∀ t, T t → t ∈ L) (hC : ∀ x, C x → Oc L M x) (hz : z < mZ M ∧ mK M z = 9) : NX L W T C r z M M' ∧ ∀ a, a ∈ L → nv M' a = nv M a := by
  have nt' : ∀ a, a ∈ L → Nt M' a (mR M a 0) (cp M a) (sz M a) := fun a ha => (hF.nt ha).fi f (fun u => (hC a u).2.1 ha) (fun u => (hC _ u).2.2 a ha rfl)
  have cc : ∀ a, cp M' a = cp M a := fun a => by unfold cp; rw [f.2.2.1, f.2.1]
  have nf : NF L W M' := ⟨hF.1, fun a ha => ⟨(nt' a ha).nn, by rw [cc]; exact (hF.2.1 a ha).2.1, (hF.2.1 a ha).2.2⟩, fun a b ha hb u => hF.2.2 a b ha hb (by rw [← f.2.2.1]; exact u)⟩
  refine ⟨⟨⟨o, nf⟩, ⟨hT, hC, hz⟩, ((f.fa (R := fun _ => False)).fd (D := fun x => x = z + 13 ∨ x + 1 = z)).mono (fun _ _ u => Or.inr u) (fun _ _ u => u.elim) (fun _ _ u => u), fun t _ => Or.inl (by rw [f.2.2.1]), ?_⟩, fun a ha => ?_⟩
  · unfold RmN
    rw [show cp M' = cp M from funext cc, f.2.2.2.2.1, f.2.2.2.2.2.1]
    exact ⟨Nat.le_refl _, Nat.le_refl _⟩
  · rw [(nt' a ha).nv]
    unfold nv
    rw [f.2.2.2.2.2.2 _ (fun u => (hC _ u).2.2 a ha rfl)]
/-- the Solver's own int tables -/
def Stb (s x : Nat) : Prop := x = s ∨ x = s + 29 ∨ x = s + 30 ∨ x = s + 122 ∨ x = s + 123 ∨ x = s + 124 ∨ x = s + 125 ∨ x = s + 126 ∨ x = s + 128 ∨ x = s + 129
/-- all that the Solver may change, with the rows of a table -/
def Tso (s : Nat) (M : mM) (R n x : Nat) : Prop := Tpk (s + 1) x ∨ Trs (s + 31) x ∨ T2 (s + 130) x ∨ Trw M R n x
def Cso (s : Nat) (M : mM) (R n x : Nat) : Prop := Ipk (s + 1) x ∨ Stb s x ∨ S36 (s + 31) x ∨ x = s + 32 ∨ x = s + 130 ∨ Irw M R n x
/-- the Solver with a table of k rows, a game of cn states -/
def Sva (L : List Nat) (W : Nat → Nat) (s g a R k cn cc bc : Nat) (M : mM) : Prop := SG M s g cn cc bc ∧ (NF L W M ∧ SK L M (s + 1) ∧ RsK L M (s + 31) ∧ FrL L M (s + 130)) ∧ (∀ x, Stb s x → Oc L M x) ∧ (∀ i, i ≤ 9 → Oc L M (g + i)) ∧ RwT L M a R k ∧ (∀ i, i < k → s + 134 < mR M R i) ∧ RwD M R k
theorem Sva.te (h : Sva L W s g a R k cn cc bc M) : Te L W (s + 1) g a R k M := by
  obtain ⟨h1, ⟨h2, h3, h4, h5⟩, h6, h7, h8, h9, h10⟩ := h
  refine ⟨⟨h1.1, h2, h3⟩, ⟨h1.2.2.1, h7⟩, h8, fun i hi => ?_, h10⟩
  have := h9 i hi
  unfold Rap Tpk T4 Tor T2
  omega
theorem Sva.tl (h : Sva L W s g a R k cn cc bc M) (hn : n ≤ k) : ∀ t, Tso s M R n t → t ∈ L := fun t ht => by
  rcases ht with u | u | u | u
  · exact h.2.1.2.1.tpk t u
  · exact h.2.1.2.2.1.tl t u
  · exact h.2.1.2.2.2.t2 t u
  · exact h.te.trw hn t u
theorem Sva.cl (h : Sva L W s g a R k cn cc bc M) (hn : n ≤ k) : ∀ x, Cso s M R n x → Oc L M x := fun x hx => by
  obtain ⟨-, ⟨h2, h3, h4, h5⟩, h6, -⟩ := id h
  rcases hx with u | u | u | u | u | u
  · exact h2.ocf (h3.ipk x u).1 (h3.ipk x u).2
  · exact h6 x u
  · exact h4.s36 x u
  · rw [u]; exact h4.2.1 1 (by decide)
  · rw [u]; exact h2.ocf h5.1.2.2 h5.1.1
  · exact h2.ocf (h.te.irw hn x u).1 (h.te.irw hn x u).2
theorem Sva.z9 (h : Sva L W s g a R k cn cc bc M) : s + 1 < mZ M ∧ mK M (s + 1) = 9 := h.2.1.2.1.z9
end NBQ
end
section
/-! The class's Solver: what its steps keep. -/
section NBR
variable {G : mG} {d s g z e a R cn cc bc i k n c lo hi un x f : Nat} {M M0 M' M1 M2 M3 : mM} {L : List Nat} {W : Nat → Nat} {T T' I C C' S : Nat → Prop} {r r' : Prop}
theorem NX.frl (h : NX L W T C r z M M') (hF : NF L W M) (hf : FrL L M f) : FrL L M' f ∧ (¬ C f → mI M' f = mI M f) := by
  obtain ⟨⟨k, p, l⟩, m1, m3⟩ := hf
  have z9 := h.2.1.2.2.2
  obtain ⟨a1, a2, a3, a4⟩ := h.oth (hF.ocf l k) (fun u => by rw [u, z9] at k; omega)
  exact ⟨⟨⟨by rw [a1]; exact k, by rw [a3]; exact p, Nat.lt_of_lt_of_le l h.2.2.1.1.1⟩, m1, m3⟩, a4⟩
theorem Sva.gC (h : Sva L W s g a R k cn cc bc M) (hn : n ≤ k) (hi : i ≤ 9) : ¬ Cso s M R n (g + i) := by
  have gs := h.1.2.1.1.2
  intro u
  unfold Cso Ipk Stb S36 Irw at u
  rcases u with u | u | u | u | u | ⟨j, hj, u⟩
  · omega
  · omega
  · omega
  · omega
  · omega
  · have := h.2.2.2.2.2.1 j (by omega)
    omega
theorem stb_n1 {s x : Nat} (hx : Stb s x) : x ≠ s + 1 := by unfold Stb at hx; omega
theorem s31_n1 (s i : Nat) : s + 31 + i ≠ s + 1 := by omega
theorem Sva.nxg (h : Sva L W s g a R k cn cc bc M) (q : NX L W T C r (s + 1) M M') (gC : ∀ i, i ≤ 9 → ¬ C (g + i)) (hS : SK L M' (s + 1)) : Sva L W s g a R k cn cc bc M' ∧ (∀ i, i ≤ 9 → mI M' (g + i) = mI M (g + i)) ∧ mR M' R = mR M R := by
  obtain ⟨⟨o, ⟨s0, sr, sk, sn⟩, hG, ⟨g3, n3⟩, hT⟩, ⟨hF, hSK, hR, hW⟩, hSt, hgo, ⟨t1, t2, t3, t4, ⟨t5, t6⟩, t7⟩, hrow, hD⟩ := id h
  have z9 := hSK.1.1
  have og : ∀ i, i ≤ 9 → _ := fun i hi => q.oth (hgo i hi) (fun e => (hG.kd hi).1 (by rw [e]; exact z9))
  have g0 := og 0 (by decide)
  rw [Nat.add_zero] at g0
  have os : ∀ x, Stb s x → mK M' x = mK M x ∧ mN M' x = mN M x ∧ mR M' x = mR M x := fun x hx => by
    have ne : x ≠ s + 1 := stb_n1 hx
    obtain ⟨a1, a2, a3, -⟩ := q.oth (hSt x hx) ne
    exact ⟨a1, a2, a3⟩
  have st : ∀ {x : Nat}, Stb s x → Stb s x := fun h => h
  have e0 := os s (Or.inl rfl)
  have e29 := os (s + 29) (Or.inr (Or.inl rfl))
  have e30 := os (s + 30) (Or.inr (Or.inr (Or.inl rfl)))
  have e122 := os (s + 122) (Or.inr (Or.inr (Or.inr (Or.inl rfl))))
  have e123 := os (s + 123) (Or.inr (Or.inr (Or.inr (Or.inr (Or.inl rfl)))))
  have e124 := os (s + 124) (Or.inr (Or.inr (Or.inr (Or.inr (Or.inr (Or.inl rfl))))))
  have e125 := os (s + 125) (Or.inr (Or.inr (Or.inr (Or.inr (Or.inr (Or.inr (Or.inl rfl)))))))
  have e126 := os (s + 126) (Or.inr (Or.inr (Or.inr (Or.inr (Or.inr (Or.inr (Or.inr (Or.inl rfl))))))))
  have e128 := os (s + 128) (Or.inr (Or.inr (Or.inr (Or.inr (Or.inr (Or.inr (Or.inr (Or.inr (Or.inl rfl)))))))))
  have e129 := os (s + 129) (Or.inr (Or.inr (Or.inr (Or.inr (Or.inr (Or.inr (Or.inr (Or.inr (Or.inr rfl)))))))))
  have ig : ∀ i, i ≤ 9 → mI M' (g + i) = mI M (g + i) := fun i hi => (og i hi).2.2.2 (gC i hi)
  have oe : ∀ i, i ≤ 6 → mK M' (s + 31 + i) = mK M (s + 31 + i) ∧ mN M' (s + 31 + i) = mN M (s + 31 + i) ∧ mR M' (s + 31 + i) = mR M (s + 31 + i) := fun i hi => by
    obtain ⟨a1, a2, a3, -⟩ := q.oth (hR.2.1 i hi) (s31_n1 s i)
    exact ⟨a1, a2, a3⟩
  have r0 := oe 0 (by decide)
  rw [Nat.add_zero] at r0
  have na : a ≠ s + 1 := fun u => by rw [u, z9] at t1; exact absurd t1 (by decide)
  have nR : R ≠ s + 1 := fun u => by rw [u, z9] at t3; exact absurd t3 (by decide)
  have oa := q.oth t5 na
  have oR := q.oth t6 nR
  have eR := oR.2.2.1
  refine ⟨⟨⟨q.ok, ⟨⟨by rw [e0.1]; exact s0.1, s0.2⟩, by rw [e0.2.2]; exact sr, by rw [e29.1, e30.1, e122.1, e123.1, e124.1, e125.1, e126.1, e128.1, e129.1]; exact sk, by rw [e29.2.1, e30.2.1, e122.2.1, e123.2.1, e124.2.1, e125.2.1, e126.2.1, e128.2.1, e129.2.1]; exact sn⟩, ⟨by rw [g0.1]; exact hG.1, by rw [g0.2.2.1]; exact hG.2.1, fun i hi hi' => by rw [(og i hi').1]; exact hG.2.2.1 i hi hi', by rw [(og 2 (by decide)).2.1, (og 4 (by decide)).2.1, (og 6 (by decide)).2.1, (og 7 (by decide)).2.1, (og 8 (by decide)).2.1, (og 9 (by decide)).2.1]; exact hG.2.2.2⟩, ⟨by rw [g0.2.2.1]; exact g3, by rw [(og 3 (by decide)).2.1]; exact n3⟩, hT.same ig⟩, ⟨q.nf, hS, ?_, (q.frl hF hW).1⟩, fun x hx => q.oc hF (hSt x hx), fun i hi => q.oc hF (hgo i hi), ⟨by rw [oa.1]; exact t1, by rw [oa.2.2.1]; exact t2, by rw [oR.1]; exact t3, by rw [oR.2.1]; exact t4, ⟨q.oc hF t5, q.oc hF t6⟩, fun i hi => by rw [eR]; exact (q.frl hF (t7 i hi)).1⟩, fun i hi => by rw [eR]; exact hrow i hi, fun i j hi hj ij => by rw [eR]; exact hD i j hi hj ij⟩, ig, eR⟩
  obtain ⟨⟨c0, c1, c2, c3⟩, c4, c5, c6⟩ := hR
  refine ⟨⟨by rw [r0.1]; exact c0, by rw [r0.2.2]; exact c1, by rw [(oe 1 (by decide)).1, (oe 2 (by decide)).1, (oe 3 (by decide)).1, (oe 4 (by decide)).1, (oe 5 (by decide)).1, (oe 6 (by decide)).1]; exact c2, by rw [(oe 1 (by decide)).2.1, (oe 2 (by decide)).2.1, (oe 3 (by decide)).2.1, (oe 4 (by decide)).2.1, (oe 5 (by decide)).2.1, (oe 6 (by decide)).2.1]; exact c3⟩, fun i hi => q.oc hF (c4 i hi), fun i hi => by rw [(oe 2 (by decide)).2.2]; exact c5 i hi, c6⟩
theorem Sva.nx (h : Sva L W s g a R k cn cc bc M) (hn : n ≤ k) (q : NX L W (Tso s M R n) (Cso s M R n) r (s + 1) M M') (hS : SK L M' (s + 1)) : Sva L W s g a R k cn cc bc M' ∧ (∀ i, i ≤ 9 → mI M' (g + i) = mI M (g + i)) ∧ mR M' R = mR M R := h.nxg q (fun i hi => h.gC hn hi) hS
/-- steps that leave the Scales' references -/
theorem NX.sk (h : NX L W T C False z M M') (hF : NF L W M) (hS : SK L M z) : SK L M' z := by
  obtain ⟨⟨k1, k2⟩, k3, k4, ⟨k5, k6, k7⟩, ⟨k8, k9⟩, k10, k11⟩ := hS
  have zz := h.2.2.1.1.1
  have rz : mR M' z = mR M z := (h.2.2.1.2 z k2).2.2.2.1 (fun u => u.elim (fun u => (hF.nz k1 (h.2.1.1 z u)).1 rfl) (fun u => u.2))
  have o13 : Oc L M (z + 13) := ⟨k7, fun u => by have := hF.kd u; rw [k5] at this; omega, fun a ha u => by have := hF.ka ha; rw [u, k5] at this; omega⟩
  obtain ⟨a1, a2, -⟩ := h.oth o13 (by omega)
  have f8 := (h.frl hF (f := z + 18) ⟨k8, k11.1, k11.2.1⟩).1
  have f9 := (h.frl hF (f := z + 23) ⟨k9, k11.2.2.1, k11.2.2.2⟩).1
  exact ⟨⟨by rw [h.kind k2]; exact k1, Nat.lt_of_lt_of_le k2 zz⟩, by rw [rz]; exact k3, by rw [rz]; exact k4, ⟨by rw [a1]; exact k5, by rw [a2]; exact k6, Nat.lt_of_lt_of_le k7 zz⟩, ⟨f8.1, f9.1⟩, k10, k11⟩
end NBR
end
section
/-! The class's Solver: equations are written. -/
section NBS
variable {G : mG} {d s g a cn cc bc i k n c un x y mu : Nat} {M M0 M' M1 M2 M3 : mM}
/-- a row while its branches are read: they sum up to w -/
def evR (M : mM) (s i : Nat) (mu w : Int) : Prop := (∀ j, j < 40 → -w ≤ mI M (s + 32) (i * 41 + j) ∧ mI M (s + 32) (i * 41 + j) ≤ mu) ∧ 0 ≤ mI M (s + 32) (i * 41 + 40) ∧ mI M (s + 32) (i * 41 + 40) ≤ w
theorem ev_up {j : Nat} {v w w' m : Int} (h : evR M s i m w) (e : M' = mUI M (s + 32) (i * 41 + j) v) (ww : w ≤ w') (hj : j ≤ 40) (hv : (j < 40 → -w' ≤ v ∧ v ≤ m) ∧ (j = 40 → 0 ≤ v ∧ v ≤ w')) : evR M' s i m w' := by
  obtain ⟨h1, h2, h3⟩ := h
  refine ⟨fun j' hj' => ?_, ?_⟩
  · rw [mI_ui _ _ e]
    by_cases c : j' = j
    · rw [if_pos ⟨rfl, by omega⟩]
      exact hv.1 (by omega)
    · rw [if_neg (fun u => c (by omega))]
      have := h1 j' hj'
      omega
  · rw [mI_ui _ _ e]
    by_cases c : j = 40
    · rw [if_pos ⟨rfl, by omega⟩]
      exact hv.2 c
    · rw [if_neg (fun u => c (by omega))]
      omega
theorem wsm_mono {m : Nat} : ∀ {q : Nat}, m ≤ q → (∀ j, x ≤ j → j < x + q → 1 ≤ mI M (g + 9) j) → wsm M g x m ≤ wsm M g x q
  | 0, h, _ => by rw [show m = 0 by omega]; exact Int.le_refl _
  | q + 1, h, hp => by
    by_cases c : m = q + 1
    · rw [c]; exact Int.le_refl _
    · have h1 := wsm_mono (m := m) (q := q) (by omega) (fun j a b => hp j a (by omega))
      have h2 := hp (x + q) (by omega) (by omega)
      have h3 : wsm M g x (q + 1) = wsm M g x q + mI M (g + 9) (x + q) := rfl
      omega
theorem s_ev86 {l2 : Int} {Q : mM → Prop} (hg : SG M s g cn cc bc) (hR : Rk M (s + 31)) (hS : Slo M s un) (u40 : un ≤ 40) (hi : i < 40) (hl2 : i32 l2) (hc : c < cc) (e7 : mI M (g + 7) (c + 1) = ((y : Nat) : Int)) (hxy : x ≤ y ∧ y ≤ bc) (hbr : ∀ j, x ≤ j → j < y → 0 ≤ mI M (g + 8) j ∧ mI M (g + 8) j < cn ∧ 1 ≤ mI M (g + 9) j) (hw : wsm M g x (y - x) = ((mu : Nat) : Int)) (hmu : mu < 1000000000)
    (hQ : ∀ M', mOk M' → FI (fun z => z = s + 32) M M' → (∀ j, (j < i * 41 ∨ i * 41 + 41 ≤ j) → mI M' (s + 32) j = mI M (s + 32) j) → evR M' s i mu mu → h_So_evaluate_15 G d s a l2 ((i : Int) + 1) M' Q) : ∀ (t b : Nat) (M1 : mM), y ≤ b + t → x ≤ b → b ≤ y → mOk M1 → FI (fun z => z = s + 32) M M1 → (∀ j, (j < i * 41 ∨ i * 41 + 41 ≤ j) → mI M1 (s + 32) j = mI M (s + 32) j) → evR M1 s i mu (wsm M g x (b - x)) → h_So_evaluate_86 G d s a l2 i ((i : Int) * 41) c b M1 Q := by
  have gs := hg.2.1.1.2
  intro t
  induction t with
  | zero =>
    intro b M1 h1 h2 h3 o F oth ev
    have eb : b = y := by omega
    subst eb
    rw [hw] at ev
    have nS : ∀ i, i ≤ 9 → ¬ (fun z => z = s + 32) (g + i) := fun i hi u => by have u' : g + i = s + 32 := u; omega
    obtain ⟨-, ⟨⟨s0, -⟩, ⟨-, -, -, r3, -⟩, -⟩, ⟨g0, ⟨-, -, -, q7, -⟩, gk, ⟨-, -, -, m7, -⟩⟩, -, hT⟩ := hg.fi F o nS
    obtain ⟨hc1, hc2, hc3⟩ := hT.1
    refine k_So_evaluate_86 o hl2 ⟨by omega, by omega⟩ ⟨by omega, by omega⟩ ⟨by omega, by omega⟩ ⟨by omega, by omega⟩ ?_
    rw [r3, q7, m7, show Int.toNat ((c : Int) + 1) = c + 1 by omega, F.2.2.2.2.2.2 (g + 7) (nS 7 (by decide)), e7]
    exact ⟨s0, g0, gk 7 (by decide) (by decide), ⟨by omega, by omega⟩, fun _ => hQ M1 o F oth ev, fun u => absurd (Int.le_refl _) u⟩
  | succ t ih =>
    intro b M1 h1 h2 h3 o F oth ev
    by_cases eb : b = y
    · exact ih b M1 (by omega) h2 h3 o F oth ev
    have nS : ∀ i, i ≤ 9 → ¬ (fun z => z = s + 32) (g + i) := fun i hi u => by have u' : g + i = s + 32 := u; omega
    obtain ⟨-, ⟨⟨s0, -⟩, ⟨-, -, -, r3, r4, -, -, r7, -⟩, ⟨-, -, -, -, k7, -⟩, ⟨-, -, -, -, n7, -⟩⟩, ⟨g0, ⟨q2, -, -, q7, q8, q9⟩, gk, ⟨m2, -, -, m7, m8, m9⟩⟩, -, hT⟩ := hg.fi F o nS
    obtain ⟨e0, ⟨re, -⟩, ⟨ke, -⟩, ⟨ne, -⟩⟩ := hR.fi F
    have re' : mR M1 (s + 31) 0 = s + 32 := re
    have ke' : mK M1 (s + 32) = 30 := ke
    have ne' : mN M1 (s + 32) = 1640 := ne
    obtain ⟨hc1, hc2, hc3⟩ := hT.1
    obtain ⟨b1, b2, b3⟩ := hbr b h2 (by omega)
    obtain ⟨to, eto⟩ : ∃ to : Nat, mI M (g + 8) b = ((to : Nat) : Int) := ⟨(mI M (g + 8) b).toNat, by omega⟩
    have i124 : mI M1 (s + 124) = mI M (s + 124) := F.2.2.2.2.2.2 _ (show ¬ s + 124 = s + 32 by omega)
    have sl := hS to (by omega)
    have wpos : ∀ j, x ≤ j → j < x + (y - x) → 1 ≤ mI M (g + 9) j := fun j p q => (hbr j p (by omega)).2.2
    have wb := wsm_le (M := M) (g := g) (x := x) (n := y - x) wpos (y - x) (Nat.le_refl _) b h2 (by omega)
    rw [hw] at wb
    have wb1 : wsm M g x (b + 1 - x) = wsm M g x (b - x) + mI M (g + 9) b := by
      rw [show b + 1 - x = (b - x) + 1 by omega]
      show wsm M g x (b - x) + mI M (g + 9) (x + (b - x)) = _
      rw [show x + (b - x) = b by omega]
    have w0 : 0 ≤ wsm M g x (b - x) := wg_ws (fun j p q => (hbr j p (by omega)).2.2)
    have wle : wsm M g x (b - x) + mI M (g + 9) b ≤ ((mu : Nat) : Int) := by
      rw [← wb1, ← hw]
      exact wsm_mono (by omega) wpos
    refine k_So_evaluate_86 o hl2 ⟨by omega, by omega⟩ ⟨by omega, by omega⟩ ⟨by omega, by omega⟩ ⟨by omega, by omega⟩ ?_
    rw [r3, q7, m7, show Int.toNat ((c : Int) + 1) = c + 1 by omega, F.2.2.2.2.2.2 (g + 7) (nS 7 (by decide)), e7, q8, m8, r7, n7, q2, m2, r4, re', ne', q9, m9, Int.toNat_natCast, F.2.2.2.2.2.2 (g + 8) (nS 8 (by decide)), eto, Int.toNat_natCast, F.2.2.2.2.2.2 (g + 2) (nS 2 (by decide)), F.2.2.2.2.2.2 (g + 9) (nS 9 (by decide)), i124, show ((i : Int) * 41 + 40) = ((i * 41 + 40 : Nat) : Int) by omega, Int.toNat_natCast, show ((b : Int) + 1) = ((b + 1 : Nat) : Int) by omega]
    have e40 := ev.2
    refine ⟨s0, g0, gk 7 (by decide) (by decide), ⟨by omega, by omega⟩, fun u => absurd u (by omega), fun _ => ⟨gk 8 (by decide) (by decide), ⟨by omega, by omega⟩, k7, ⟨by omega, by omega⟩, ⟨fun _ => ⟨gk 2 (by decide) (by decide), ⟨by omega, by omega⟩, fun _ => ⟨e0, ke', ⟨by omega, by omega⟩, gk 9 (by decide) (by decide), ⟨by omega, by omega⟩, ⟨by omega, by omega⟩, ⟨by omega, by omega⟩⟩⟩, fun ns => ?_⟩, fun M63 e63 => ?_⟩⟩
    · have sl' := sl.resolve_left ns
      obtain ⟨j, ej⟩ : ∃ j : Nat, mI M (s + 124) to = ((j : Nat) : Int) := ⟨(mI M (s + 124) to).toNat, by omega⟩
      rw [ej, show ((i : Int) * 41 + ((j : Nat) : Int)) = ((i * 41 + j : Nat) : Int) by omega, Int.toNat_natCast]
      have evj := ev.1 j (by omega)
      exact ⟨e0, ⟨by omega, by omega⟩, ke', ⟨by omega, by omega⟩, gk 9 (by decide) (by decide), ⟨by omega, by omega⟩, ⟨by omega, by omega⟩, ⟨by omega, by omega⟩⟩
    · by_cases c1 : mI M (s + 124) to = -1
      · rw [if_pos c1] at e63
        by_cases c2 : mI M (g + 2) to = 3
        · rw [if_pos c2] at e63
          have f63 : FI (fun z => z = s + 32) M1 M63 := by rw [e63]; exact FI.ui rfl
          have o63 : mOk M63 := by rw [e63]; exact mOk_UI o ⟨by omega, by omega⟩
          exact ⟨o63, ih (b + 1) M63 (by omega) (by omega) (by omega) o63 (F.trans f63) (fun j hj => by rw [mI_ui _ j e63, if_neg (fun u => by omega)]; exact oth j hj) (by rw [wb1]; exact ev_up ev e63 (by omega) (Nat.le_refl _) ⟨fun u => absurd u (by decide), fun _ => ⟨by omega, by omega⟩⟩)⟩
        · rw [if_neg c2] at e63
          rw [e63]
          refine ⟨o, ih (b + 1) M1 (by omega) (by omega) (by omega) o F oth ?_⟩
          rw [wb1]
          exact ⟨fun j hj => by have := ev.1 j hj; omega, by omega, by omega⟩
      · rw [if_neg c1] at e63
        have sl' := sl.resolve_left c1
        obtain ⟨j, ej⟩ : ∃ j : Nat, mI M (s + 124) to = ((j : Nat) : Int) := ⟨(mI M (s + 124) to).toNat, by omega⟩
        rw [ej, show ((i : Int) * 41 + ((j : Nat) : Int)) = ((i * 41 + j : Nat) : Int) by omega, Int.toNat_natCast] at e63
        have evj := ev.1 j (by omega)
        have f63 : FI (fun z => z = s + 32) M1 M63 := by rw [e63]; exact FI.ui rfl
        have o63 : mOk M63 := by rw [e63]; exact mOk_UI o ⟨by omega, by omega⟩
        exact ⟨o63, ih (b + 1) M63 (by omega) (by omega) (by omega) o63 (F.trans f63) (fun j' hj => by rw [mI_ui _ j' e63, if_neg (fun u => by omega)]; exact oth j' hj) (by rw [wb1]; exact ev_up ev e63 (by omega) (by omega) ⟨fun _ => ⟨by omega, by omega⟩, fun u => absurd u (by omega)⟩)⟩
/-- the equations, row by row -/
theorem s_ev15 {wt : Nat → Nat} {Q : mM → Prop} (hg : SG M s g cn cc bc) (hR : Rk M (s + 31)) (hL : LHs M s cn cc) (hU : Unk M s cn un) (hwt : ∀ i, i < un → wtO M s g i (wt i) ∧ wt i ≤ 33)
    (hQ : ∀ (M' : mM) (bits : Nat), mOk M' → FI (fun z => z = s + 32) M M' → Ent9 M' (s + 31) 1640 → bits ≤ wsu wt un → mK M' (mR M' s 4) = 12 ∧ Cv G y_Re_settle d [vr (mR M' s 4), vi (mI M' s 10), vi bits] M' (fun M10 => mOk M10 ∧ (h_So_evaluate_226 G d s a 0 M10 Q))) : ∀ (t i bits : Nat) (M1 : mM), un ≤ i + t → i ≤ un → mOk M1 → FI (fun z => z = s + 32) M M1 → Ent9 M1 (s + 31) 1640 → (∀ j, i * 41 ≤ j → j < 1640 → mI M1 (s + 32) j = 0) → bits ≤ wsu wt i → wsu wt i ≤ 33 * i → h_So_evaluate_15 G d s a bits i M1 Q := by
  have gs := hg.2.1.1.2
  have nS : ∀ i, i ≤ 9 → ¬ (fun z => z = s + 32) (g + i) := fun i hi u => by have u' : g + i = s + 32 := u; omega
  obtain ⟨u1, u2, u3, u4⟩ := id hU
  intro t
  induction t with
  | zero =>
    intro i bits M1 h1 h2 o F en z hb hb2
    have ei : i = un := by omega
    subst ei
    obtain ⟨-, ⟨⟨s0, -⟩, -⟩, -⟩ := hg.fi F o nS
    have i10 : mI M1 s 10 = ((i : Nat) : Int) := by rw [F.2.2.2.2.2.2 s (show ¬ s = s + 32 by omega)]; exact u1
    have q := hQ M1 bits o F en hb
    rw [i10] at q
    refine k_So_evaluate_15 o ⟨by omega, by omega⟩ ⟨by omega, by omega⟩ ?_
    rw [i10]
    exact ⟨s0, fun _ => q, fun u => absurd (Int.le_refl _) u⟩
  | succ t ih =>
    intro i bits M1 h1 h2 o F en z hb hb2
    by_cases ei : i = un
    · exact ih i bits M1 (by omega) h2 o F en z hb hb2
    have hi : i < un := by omega
    have hg1 := hg.fi F o nS
    obtain ⟨-, ⟨⟨s0, -⟩, ⟨-, -, -, r3, r4, -, -, -, -, r9, -⟩, ⟨-, -, -, -, -, -, k9, -⟩, ⟨-, -, -, -, -, -, n9, -⟩⟩, ⟨g0, ⟨-, -, q6, q7, -, -⟩, gk, ⟨-, -, m6, m7, -, -⟩⟩, -, hT⟩ := id hg1
    obtain ⟨hc1, hc2, hc3⟩ := hT.1
    have hR1 := hR.fi F
    obtain ⟨e0, ⟨re, -⟩, ⟨ke, -⟩, ⟨ne, -⟩⟩ := id hR1
    have re' : mR M1 (s + 31) 0 = s + 32 := re
    have ke' : mK M1 (s + 32) = 30 := ke
    have ne' : mN M1 (s + 32) = 1640 := ne
    obtain ⟨kst, c, lo, hi', e1, hk, e4, e2, e3, l1, l2⟩ := u4 i hi
    obtain ⟨lo', hi2, f1, f2, f3, f4⟩ := hL kst hk
    have cc' : c < cc := by omega
    obtain ⟨x, y, mu, v1, v2, ⟨v3, v3'⟩, v4, v5, v6, v7, v8, v9, -⟩ := hT.2.1 c cc'
    have i10 : mI M1 s 10 = ((un : Nat) : Int) := by rw [F.2.2.2.2.2.2 s (show ¬ s = s + 32 by omega)]; exact u1
    have i9 : mI M1 (s + 126) i = ((c : Nat) : Int) := by rw [F.2.2.2.2.2.2 (s + 126) (show ¬ s + 126 = s + 32 by omega)]; exact e4
    have mw : ((mu : Nat) : Int) < 2 ^ (wt i) := by
      have := (hwt i hi).1 kst lo hi' c e1 e2 e3 l1 l2
      rw [← F.2.2.2.2.2.2 (g + 6) (nS 6 (by decide)), v6] at this
      exact this
    refine k_So_evaluate_15 o ⟨by omega, by omega⟩ ⟨by omega, by omega⟩ ?_
    rw [i10, r9, n9, r3, q6, m6, r4, re', ne', Int.toNat_natCast, i9, Int.toNat_natCast, v6, show ((i : Int) * 41 + (i : Int)) = ((i * 41 + i : Nat) : Int) by omega, Int.toNat_natCast]
    refine ⟨s0, fun u => absurd u (by omega), fun _ => ⟨k9, ⟨by omega, by omega⟩, g0, gk 6 (by decide) (by decide), ⟨by omega, by omega⟩, e0, ke', ⟨by omega, by omega⟩, fun M21 e21 => ?_⟩⟩
    have f21 : FI (fun z => z = s + 32) M1 M21 := by rw [e21]; exact FI.ui rfl
    have o21 : mOk M21 := by rw [e21]; exact mOk_UI o ⟨by omega, by omega⟩
    have hg21 := hg1.fi f21 o21 nS
    refine (s_nlz (d := d) (show (0 : Int) < ((mu : Nat) : Int) by omega) ⟨by omega, by omega⟩ o21).mono (fun x24 M23 q => ?_)
    obtain ⟨e23, kk, ek, k31, p1, p2⟩ := q
    have w32 : 32 - kk ≤ wt i := by
      have : 31 - kk < wt i := p2l (Int.lt_of_le_of_lt p1 mw)
      omega
    have b7 : mI M21 (g + 7) c = ((x : Nat) : Int) := by rw [f21.2.2.2.2.2.2 (g + 7) (nS 7 (by decide))]; exact v1
    rw [e23, ek, f21.1, f21.2.1, f21.2.2.1, r3, q7, m7, b7]
    refine ⟨⟨by omega, by omega⟩, o21, s0, g0, gk 7 (by decide) (by decide), ⟨by omega, by omega⟩, ?_⟩
    rw [show ((bits : Nat) : Int) + (32 - ((kk : Nat) : Int)) = ((bits + (32 - kk) : Nat) : Int) by omega]
    have wt33 := (hwt i hi).2
    have g8 : mI M21 (g + 8) = mI M1 (g + 8) := f21.2.2.2.2.2.2 (g + 8) (nS 8 (by decide))
    have g9 : mI M21 (g + 9) = mI M1 (g + 9) := f21.2.2.2.2.2.2 (g + 9) (nS 9 (by decide))
    refine s_ev86 (M := M21) (mu := mu) (x := x) (y := y) (un := un) (a := a) hg21 (hR1.fi f21) (fun j hj => by rw [f21.2.2.2.2.2.2 (s + 124) (show ¬ s + 124 = s + 32 by omega), F.2.2.2.2.2.2 (s + 124) (show ¬ s + 124 = s + 32 by omega)]; exact u3 j hj) u2 (by omega) ⟨by omega, by omega⟩ cc' (by rw [f21.2.2.2.2.2.2 (g + 7) (nS 7 (by decide))]; exact v2) ⟨by omega, v4⟩ (fun j p q => by rw [g8, g9]; exact v5 j p q) (by rw [wsm_cg (M := M1) _ (fun j _ _ => by rw [g9])]; exact v9) v8 (fun M' o' F' oth ev => ?_) (y - x) x M21 (by omega) (Nat.le_refl _) (by omega) o21 FI.refl (fun _ _ => rfl) ?_
    · rw [show ((i : Int) + 1) = ((i + 1 : Nat) : Int) by omega]
      refine ih (i + 1) (bits + (32 - kk)) M' (by omega) (by omega) o' ((F.trans f21).trans F') (fun j hj => ?_) (fun j hj1 hj2 => ?_) ?_ ?_
      · by_cases cj : j < i * 41 ∨ i * 41 + 41 ≤ j
        · show -1000000000 ≤ mI M' (s + 32) j ∧ mI M' (s + 32) j ≤ 1000000000
          rw [oth j cj, mI_ui _ j e21, if_neg (fun u => by omega)]
          exact en j hj
        · obtain ⟨j', ej⟩ : ∃ j', j = i * 41 + j' ∧ j' ≤ 40 := ⟨j - i * 41, by omega, by omega⟩
          show -1000000000 ≤ mI M' (s + 32) j ∧ mI M' (s + 32) j ≤ 1000000000
          rw [ej.1]
          by_cases c40 : j' = 40
          · rw [c40]; have := ev.2; omega
          · have := ev.1 j' (by omega); omega
      · rw [oth j (Or.inr (by omega)), mI_ui _ j e21, if_neg (fun u => by omega)]
        exact z j (by omega) hj2
      · show bits + (32 - kk) ≤ wsu wt i + wt i
        omega
      · show wsu wt i + wt i ≤ 33 * (i + 1)
        omega
    · rw [Nat.sub_self]
      show evR M21 s i mu 0
      refine ⟨fun j hj => ?_, ?_⟩
      · rw [mI_ui _ _ e21]
        by_cases cj : j = i
        · rw [if_pos ⟨rfl, by omega⟩]; omega
        · rw [if_neg (fun u => by omega), z _ (by omega) (by omega)]; omega
      · rw [mI_ui _ _ e21, if_neg (fun u => by omega), z _ (by omega) (by omega)]
        omega
end NBS
end
section
/-! The class's Solver: the numbers of what is chosen. -/
section NBT
variable {G : mG} {d s g a R cn cc bc i k n c un x y mu : Nat} {M M0 M' M1 M2 M3 : mM} {L : List Nat} {W : Nat → Nat}
def Cev (s x : Nat) : Prop := S36 (s + 31) x ∨ x = s + 32
theorem Cev.so {R' : Nat} (h : Cev s x) : Cso s M R' n x := h.elim (fun u => Or.inr (Or.inr (Or.inl u))) (fun u => Or.inr (Or.inr (Or.inr (Or.inl u))))
theorem Cev.nst (h : Cev s x) : ¬ Stb s x := by
  unfold Cev S36 at h
  unfold Stb
  omega
/-- while numbers are worked out -/
def evI (L : List Nat) (W : Nat → Nat) (s g a R k cn cc bc : Nat) (M0 M : mM) : Prop := NX L W (Tso s M0 R cn) (Cev s) False (s + 1) M0 M ∧ Sva L W s g a R k cn cc bc M ∧ mR M R = mR M0 R ∧ (∀ x, Stb s x → mI M x = mI M0 x) ∧ Rsm M R cn 17 ∧ (∀ i, i < cn → mI M (mR M0 R i) = mI M0 (mR M0 R i)) ∧ ∀ i, i ≤ 9 → mI M (g + i) = mI M0 (g + i)
theorem ev_mk (h : Sva L W s g a R k cn cc bc M0) (hcn : cn ≤ k) (q : NX L W (Tso s M0 R cn) (Cev s) False (s + 1) M0 M) (hr : Rsm M R cn 17) : evI L W s g a R k cn cc bc M0 M := by
  have hF := h.2.1.1
  have q' : NX L W (Tso s M0 R cn) (Cso s M0 R cn) False (s + 1) M0 M := q.mono hF (fun _ u => u) (h.tl hcn) (fun x u => u.so) (h.cl hcn) (fun u => u)
  obtain ⟨e1, e2, e3⟩ := h.nx hcn q' (q.sk hF h.2.1.2.1)
  refine ⟨q, e1, e3, fun x hx => ?_, hr, fun i hi => ?_, e2⟩
  · have ne : x ≠ s + 1 := by unfold Stb at hx; omega
    exact (q.oth (h.2.2.1 x hx) ne).2.2.2 (fun u => u.nst hx)
  · have f := h.2.2.2.2.1.2.2.2.2.2 i (by omega)
    refine (q.frl hF f).2 (fun u => ?_)
    have := h.2.2.2.2.2.1 i (by omega)
    unfold Cev S36 at u
    omega
/-- one row's numbers -/
theorem s_ev226 (h0 : Sva L W s g a R k cn cc bc M0) (hcn : cn ≤ k) (hk : k ≤ 512) (hU0 : Unk M0 s cn un) (hWr : ∀ i, i < k → 17 ≤ W (mR M0 R i + 1) ∧ 17 ≤ W (mR M0 R i + 3)) : ∀ (t i : Nat) (M : mM), un ≤ i + t → i ≤ un → evI L W s g a R k cn cc bc M0 M → (∀ j, j ≤ un → nv M (s + 31 + 9 + 2 * j) < 2 ^ (30 * 17)) → h_So_evaluate_226 G (d + 1) s a i M (evI L W s g a R k cn cc bc M0) := by
  obtain ⟨u1, u2, u3, u4⟩ := id hU0
  intro t
  induction t with
  | zero =>
    intro i M h1 h2 hI hv
    have ei : i = un := by omega
    subst ei
    obtain ⟨-, ⟨⟨o, ⟨⟨s0, -⟩, -⟩, -⟩, -⟩, -, st, -⟩ := id hI
    refine k_So_evaluate_226 o ⟨by omega, by omega⟩ ?_
    rw [st s (Or.inl rfl), u1]
    exact ⟨s0, fun _ => hI, fun u => absurd (Int.le_refl _) u⟩
  | succ t ih =>
    intro i M h1 h2 hI hv
    by_cases ei : i = un
    · exact ih i M (by omega) h2 hI hv
    obtain ⟨hN, hS, eR, st, hr, hti, gi⟩ := id hI
    obtain ⟨⟨o, ⟨⟨s0, gs⟩, ⟨-, -, -, -, r4, -, -, -, r8, -⟩, ⟨-, -, -, -, -, k8, -⟩, ⟨-, -, -, -, -, n8, -⟩⟩, -⟩, ⟨hF, hSK, hRs, hfw⟩, -, -, ⟨t1, t2, t3, t4, -, t7⟩, hrow, hD⟩ := id hS
    obtain ⟨⟨e0, ⟨-, re, -⟩, ⟨-, ke, -⟩, ⟨-, ne, -⟩⟩, -, res, -⟩ := id hRs
    have re' : mR M (s + 31) 1 = s + 33 := re
    have ke' : mK M (s + 33) = 34 := ke
    have ne' : mN M (s + 33) = 41 := ne
    have resI := res i (by omega)
    have resU := res un (by omega)
    have res1 : mR M (s + 33) i = s + 31 + 9 + 2 * i := resI.1
    have res2 : ∀ {M'}, mR M' (s + 33) = mR M (s + 33) → mR M' (s + 33) un = s + 31 + 9 + 2 * un := fun e => by rw [e]; exact resU.1
    obtain ⟨kst, c, lo, hi', e1, hkc, -⟩ := u4 i (by omega)
    have e1' : mI M (s + 125) i = ((kst : Nat) : Int) := by rw [st (s + 125) (Or.inr (Or.inr (Or.inr (Or.inr (Or.inr (Or.inr (Or.inl rfl)))))))]; exact e1
    have f := t7 kst (by omega)
    have fb := hrow kst (by omega)
    have wr := hWr kst (by omega)
    rw [← eR] at wr
    have sI := hF.szv resI.2 (hv i (by omega))
    have sU := hF.szv resU.2 (hv un (Nat.le_refl _))
    refine k_So_evaluate_226 o ⟨by omega, by omega⟩ ?_
    rw [st s (Or.inl rfl), u1, r8, n8, t2, t4, r4, re', ne', Int.toNat_natCast, e1', Int.toNat_natCast, res1, f.1.2.1.1]
    refine ⟨s0, fun u => absurd u (by omega), fun _ => ⟨t1, k8, ⟨by omega, by omega⟩, t3, ⟨by omega, by omega⟩, f.1.1, e0, ke', ⟨by omega, by omega⟩, hF.kd f.2.1, (f_put1 (d := d) o hF f.2.1 resI.2 (by omega) (by omega)).mono (fun M83 q => ?_)⟩⟩
    obtain ⟨c1, v1⟩ := q
    have F1 := c1.nf
    have z9 := hS.z9
    have x1 : NX L W (Tso s M0 R cn) (Cev s) False (s + 1) M M83 := (c1.nx (C := Cev s) (r := False) (fun x u => hS.cl (n := cn) hcn x u.so) z9).mono hF (fun t ht => Or.inr (Or.inr (Or.inr ⟨kst, hkc, Or.inl (by rw [← eR]; exact ht)⟩))) hN.2.1.1 (fun _ u => u) (fun x u => hS.cl (n := cn) hcn x u.so) (fun u => u)
    have N1 := hN.trans x1
    have S1 := (ev_mk h0 hcn N1 (M := M83) (fun j hj => ?_)).2.1
    · obtain ⟨⟨o1, ⟨⟨s01, -⟩, ⟨-, -, -, -, r41, -⟩, -⟩, -⟩, ⟨-, -, hRs1, -⟩, -, -, ⟨-, -, -, -, -, t71⟩, -, -⟩ := id S1
      obtain ⟨⟨e01, ⟨-, re1, -⟩, ⟨-, ke1, -⟩, ⟨-, ne1, -⟩⟩, -, res1', -⟩ := id hRs1
      have re1' : mR M83 (s + 31) 1 = s + 33 := re1
      have ke1' : mK M83 (s + 33) = 34 := ke1
      have ne1' : mN M83 (s + 33) = 41 := ne1
      have rU1 : mR M83 (s + 33) un = s + 31 + 9 + 2 * un := (res1' un (by omega)).1
      have i10 : mI M83 s 10 = ((un : Nat) : Int) := by rw [(c1.oth (hS.2.2.1 s (Or.inl rfl))).2.2.2, st s (Or.inl rfl)]; exact u1
      have fr1 := (c1.nl (I := fun _ => False) (r := False) noI z9).frl hF f
      have sU1 : sz M83 (s + 31 + 9 + 2 * un) ≤ 17 := by rw [(c1.num hF resU.2 (show ¬ (s + 31 + 9 + 2 * un = mR M R kst + 1) by omega)).2.2.2.1]; exact sU
      rw [r41, re1', ne1', i10, Int.toNat_natCast, rU1, fr1.1.2.1.2]
      refine ⟨c1.ok, fr1.1.1, s01, e01, ke1', ⟨by omega, by omega⟩, F1.kd f.2.2, (f_put1 (d := d) c1.ok F1 f.2.2 resU.2 (by omega) (by omega)).mono (fun M92 q => ?_)⟩
      obtain ⟨c2, v2⟩ := q
      have x2 : NX L W (Tso s M0 R cn) (Cev s) False (s + 1) M83 M92 := (c2.nx (C := Cev s) (r := False) (fun x u => S1.cl (n := cn) hcn x u.so) S1.z9).mono F1 (fun t ht => Or.inr (Or.inr (Or.inr ⟨kst, hkc, Or.inr (by rw [← eR]; exact ht)⟩))) hN.2.1.1 (fun _ u => u) (fun x u => S1.cl (n := cn) hcn x u.so) (fun u => u)
      have eR2 : mR M92 R = mR M R := by
        rw [(c2.oth S1.2.2.2.2.1.2.2.2.2.1.2).2.2.1, (c1.oth hS.2.2.2.2.1.2.2.2.2.1.2).2.2.1]
      have keep : ∀ b, b ∈ L → b ≠ mR M R kst + 1 → b ≠ mR M R kst + 3 → nv M92 b = nv M b := fun b hb n1 n3 => (c2.v F1 hb n3).trans (c1.v hF hb n1)
      rw [show ((i : Int) + 1) = ((i + 1 : Nat) : Int) by omega]
      refine ⟨c2.ok, ih (i + 1) M92 (by omega) (by omega) (ev_mk h0 hcn (N1.trans x2) (fun j hj => ?_)) (fun j hj => by rw [keep _ (res j (by omega)).2 (by omega) (by omega)]; exact hv j hj)⟩
      rw [eR2]
      by_cases cj : j = kst
      · rw [cj, v2, c1.v hF resU.2 (by omega), c2.v F1 f.2.1 (by omega), v1]
        exact ⟨hF.nn0 resU.2, hv un (Nat.le_refl _), hv i (by omega)⟩
      · have dj := hD j kst (by omega) (by omega) cj
        have fj := t7 j (by omega)
        rw [keep _ fj.2.1 (fun u => dj.1 (by omega)) dj.2.1, keep _ fj.2.2 dj.2.2 (fun u => dj.1 (by omega))]
        exact hr j hj
    · rw [(c1.oth hS.2.2.2.2.1.2.2.2.2.1.2).2.2.1]
      by_cases cj : j = kst
      · rw [cj, v1, c1.v hF f.2.2 (by omega)]
        exact ⟨(hr kst hkc).1, (hr kst hkc).2.1, hv i (by omega)⟩
      · have dj := hD j kst (by omega) (by omega) cj
        have fj := t7 j (by omega)
        rw [c1.v hF fj.2.1 (fun u => dj.1 (by omega)), c1.v hF fj.2.2 dj.2.2]
        exact hr j hj
theorem s_So_evaluate {wt : Nat → Nat} (h : Sva L W s g a R k cn cc bc M) (hcn : cn ≤ k) (hk : k ≤ 512) (hL : LHs M s cn cc) (hU : Unk M s cn un) (hwt : ∀ i, i < un → wtO M s g i (wt i) ∧ wt i ≤ 33) (h480 : wsu wt un ≤ 480) (hr : Rsm M R cn 17) (hWr : ∀ i, i < k → 17 ≤ W (mR M R i + 1) ∧ 17 ≤ W (mR M R i + 3)) (hW : ∀ x, Trs (s + 31) x → 40 ≤ W x) : Cv G y_So_evaluate (d + 6) [vr s, vr a] M (evI L W s g a R k cn cc bc M) := by
  obtain ⟨hg, ⟨hF, hSK, hRs, hfw⟩, hSt, -⟩ := id h
  obtain ⟨o, ⟨⟨s0, gs⟩, ⟨-, -, -, -, r4, -⟩, -⟩, -⟩ := id hg
  obtain ⟨⟨e0, ⟨re, -⟩, ⟨ke, -⟩, ⟨ne, -⟩⟩, oe, -⟩ := id hRs
  have re' : mR M (s + 31) 0 = s + 32 := re
  have ke' : mK M (s + 32) = 30 := ke
  have ne' : mN M (s + 32) = 1640 := ne
  have nS : ∀ i, i ≤ 9 → ¬ (fun z => z = s + 32) (g + i) := fun i hi u => by have u' : g + i = s + 32 := u; omega
  have c32 : ∀ x, (fun z => z = s + 32) x → Oc L M x := fun x u => by rw [u]; exact oe 1 (by decide)
  refine k_So_evaluate o ?_
  rw [r4, re']
  refine ⟨s0, e0, (s_JA_fill (d := d + 5) o ke' (by rw [ne']; decide) ⟨by decide, by decide⟩).mono (fun M3 q => ?_)⟩
  obtain ⟨o3, f3, i3⟩ := q
  rw [ne'] at i3
  have keepF : ∀ {x : Nat}, x ≠ s + 32 → mI M3 x = mI M x := fun hx => f3.2.2.2.2.2.2 _ hx
  refine ⟨o3, s_ev15 (M := M3) (wt := wt) (un := un) (a := a) (hg.fi f3 o3 nS) (hRs.1.fi f3) (fun j hj => by rw [keepF (show s + 122 ≠ s + 32 by omega), keepF (show s + 123 ≠ s + 32 by omega)]; exact hL j hj) ?_ ?_ (fun M' bits o' F' en hb => ?_) un 0 0 M3 (by omega) (by omega) o3 FI.refl (fun j hj => by show -1000000000 ≤ mI M3 (s + 32) j ∧ mI M3 (s + 32) j ≤ 1000000000; rw [i3 j hj]; decide) (fun j _ hj => i3 j hj) (Nat.zero_le _) (Nat.zero_le _)⟩
  · unfold Unk Slo at hU ⊢
    rw [keepF (show s ≠ s + 32 by omega), keepF (show s + 124 ≠ s + 32 by omega), keepF (show s + 125 ≠ s + 32 by omega), keepF (show s + 126 ≠ s + 32 by omega), keepF (show s + 122 ≠ s + 32 by omega), keepF (show s + 123 ≠ s + 32 by omega)]
    exact hU
  · intro i hi
    have := hwt i hi
    unfold wtO at this ⊢
    rw [keepF (show s + 125 ≠ s + 32 by omega), keepF (show s + 122 ≠ s + 32 by omega), keepF (show s + 123 ≠ s + 32 by omega), keepF (fun u => nS 6 (by decide) u)]
    exact this
  · have FF := f3.trans F'
    have i10 : mI M' s 10 = ((un : Nat) : Int) := by rw [FF.2.2.2.2.2.2 s (show ¬ s = s + 32 by omega)]; exact hU.1
    obtain ⟨x0, v0⟩ := FF.nx (T := Tso s M R cn) (r := False) (z := s + 1) o' hF (h.tl hcn) c32 h.z9
    have xE : NX L W (Tso s M R cn) (Cev s) False (s + 1) M M' := x0.mono hF (fun _ u => u) (h.tl hcn) (fun x u => Or.inr u) (fun x u => h.cl (n := cn) hcn x u.so) (fun u => u)
    have E' := ev_mk h hcn xE (fun j hj => ?_)
    · obtain ⟨-, ⟨-, ⟨hF', -, hRs', -⟩, -⟩, -⟩ := id E'
      rw [FF.1, FF.2.2.1, r4, i10]
      refine ⟨e0, (s_Re_settle (d := d) (rows := un) (bits := bits) (L := L) (W := W) hU.2.1 (by omega) o' hF' hRs' (fun j hj => en j (by have := hU.2.1; omega)) hW).mono (fun M10 q => ?_)⟩
      obtain ⟨n10, k10, v10⟩ := q
      have S' := E'.2.1
      have x10 : NX L W (Tso s M R cn) (Cev s) False (s + 1) M' M10 := (n10.nx hRs' S'.z9).mono hF' (fun t ht => Or.inr (Or.inl ht)) xE.2.1.1 (fun x u => Or.inl u) (fun x u => S'.cl (n := cn) hcn x u.so) (fun u => u)
      have X10 := xE.trans x10
      refine ⟨n10.ok, s_ev226 (d := d + 4) h hcn hk hU hWr un 0 M10 (by omega) (by omega) (ev_mk h hcn X10 (fun j hj => ?_)) (fun j hj => Int.lt_of_lt_of_le (v10 j hj) (by rw [show 30 * 17 = 510 by decide]; exact p2m (by omega)))⟩
      have f := h.2.2.2.2.1.2.2.2.2.2 j (by omega)
      have hb' := h.2.2.2.2.2.1 j (by omega)
      have nT : ∀ y, s + 134 < y → ¬ Trs (s + 31) y := fun y hy u => by
        rcases u with u | ⟨i, hi, u⟩ <;> omega
      have eR10 : mR M10 R = mR M R := by
        have nR : R ≠ s + 1 := fun u => by have t3 := h.2.2.2.2.1.2.2.1; rw [u, h.z9.2] at t3; omega
        exact (X10.oth h.2.2.2.2.1.2.2.2.2.1.2 nR).2.2.1
      have kx : ∀ b, b ∈ L → s + 134 < b → nv M10 b = nv M b := fun b hb hb2 => by
        rw [((n10.nx hRs' S'.z9).num hF' hb (nT b hb2)).2.2, v0 b hb]
      rw [eR10, kx _ f.2.1 (by omega), kx _ f.2.2 (by omega)]
      exact hr j hj
    · have f := h.2.2.2.2.1.2.2.2.2.2 j (by omega)
      rw [FF.2.2.1, v0 _ f.2.1, v0 _ f.2.2]
      exact hr j hj
end NBT
end
section
/-! The class's Solver: choices are bettered. -/
section NBU
variable {G : mG} {d s g a R cn cc bc i k n c un x y mu B : Nat} {M M0 M' M1 M2 M3 : mM} {L : List Nat} {W : Nat → Nat}
def Cim (s x : Nat) : Prop := Ipk (s + 1) x ∨ x = s + 126
theorem Cim.so {R' : Nat} (h : Cim s x) : Cso s M R' n x := h.elim (fun u => Or.inl u) (fun u => Or.inr (Or.inl (Or.inr (Or.inr (Or.inr (Or.inr (Or.inr (Or.inr (Or.inr (Or.inl u))))))))))
/-- rows without small factors -/
def Rt1 (M : mM) (R n : Nat) : Prop := ∀ i, i < n → mI M (mR M R i) 2 = 1
/-- while choices are bettered -/
def imI (L : List Nat) (W : Nat → Nat) (s g a R k cn cc bc un : Nat) (M0 M : mM) : Prop := NX L W (Tpk (s + 1)) (Cim s) True (s + 1) M0 M ∧ Sva L W s g a R k cn cc bc M ∧ mR M R = mR M0 R ∧ (∀ x, Stb s x → x ≠ s + 126 → mI M x = mI M0 x) ∧ (Rsm M R cn 17 ∧ Rt1 M R cn) ∧ Unk M s cn un
theorem im_mk (h : Sva L W s g a R k cn cc bc M0) (hcn : cn ≤ k) (hr : Rsm M0 R cn 17 ∧ Rt1 M0 R cn) (q : NX L W (Tpk (s + 1)) (Cim s) True (s + 1) M0 M) (sk : SK L M (s + 1)) (hU : Unk M s cn un) : imI L W s g a R k cn cc bc un M0 M := by
  have hF := h.2.1.1
  have q' : NX L W (Tso s M0 R cn) (Cso s M0 R cn) True (s + 1) M0 M := q.mono hF (fun _ u => Or.inl u) (h.tl hcn) (fun x u => u.so) (h.cl hcn) (fun u => u)
  obtain ⟨e1, e2, e3⟩ := h.nx hcn q' sk
  have rv : ∀ i, i < cn → nv M (mR M0 R i + 1) = nv M0 (mR M0 R i + 1) ∧ nv M (mR M0 R i + 3) = nv M0 (mR M0 R i + 3) ∧ mI M (mR M0 R i) = mI M0 (mR M0 R i) := fun i hi => by
    have f := h.2.2.2.2.1.2.2.2.2.2 i (by omega)
    have ap := h.te.2.2.2.1 i (by omega)
    refine ⟨(q.num hF f.2.1 ap.1).2.2, (q.num hF f.2.2 ap.2.1).2.2, (q.frl hF f).2 (fun u => ?_)⟩
    have := h.2.2.2.2.2.1 i (by omega)
    unfold Cim Ipk at u
    omega
  refine ⟨q, e1, e3, fun x hx nx => ?_, ⟨fun i hi => ?_, fun i hi => ?_⟩, hU⟩
  · have ne : x ≠ s + 1 := by unfold Stb at hx; omega
    refine (q.oth (h.2.2.1 x hx) ne).2.2.2 (fun u => ?_)
    unfold Cim Ipk at u
    unfold Stb at hx
    omega
  · rw [e3, (rv i hi).1, (rv i hi).2.1]; exact hr.1 i hi
  · rw [e3, (rv i hi).2.2]; exact hr.2 i hi
theorem unk_same (h : Unk M s cn un) (e : ∀ x, Stb s x → x ≠ s + 126 → mI M' x = mI M x) (e6 : mI M' (s + 126) = mI M (s + 126)) : Unk M' s cn un := by
  unfold Unk Slo at h ⊢
  rw [e s (Or.inl rfl) (by omega), e (s + 124) (Or.inr (Or.inr (Or.inr (Or.inr (Or.inr (Or.inl rfl)))))) (by omega), e (s + 125) (Or.inr (Or.inr (Or.inr (Or.inr (Or.inr (Or.inr (Or.inl rfl))))))) (by omega), e (s + 122) (Or.inr (Or.inr (Or.inr (Or.inl rfl)))) (by omega), e (s + 123) (Or.inr (Or.inr (Or.inr (Or.inr (Or.inl rfl))))) (by omega), e6]
  exact h
theorem st122 : Stb s (s + 122) ∧ Stb s (s + 123) ∧ Stb s (s + 125) := ⟨Or.inr (Or.inr (Or.inr (Or.inl rfl))), Or.inr (Or.inr (Or.inr (Or.inr (Or.inl rfl)))), Or.inr (Or.inr (Or.inr (Or.inr (Or.inr (Or.inr (Or.inl rfl))))))⟩
theorem s_im5 {pl : Int} (hpl : i32 pl) (h0 : Sva L W s g a R k cn cc bc M0) (hcn : cn ≤ k) (hk : k ≤ 512) (hL : LHs M0 s cn cc) (hr : Rsm M0 R cn 17 ∧ Rt1 M0 R cn) (hW : ∀ x, Tpk (s + 1) x → B ≤ W x) (b1 : 300 ≤ B) (hB : B ≤ 16000) (u40 : un ≤ 40) : ∀ (t i : Nat) (bt : Int) (M : mM), un ≤ i + t → i ≤ un → (bt = 0 ∨ bt = 1) → imI L W s g a R k cn cc bc un M0 M → h_So_improve_5 G (d + 6) s pl a bt i M (fun x M' => (x = 0 ∨ x = 1) ∧ imI L W s g a R k cn cc bc un M0 M') := by
  intro t
  induction t with
  | zero =>
    intro i bt M h1 h2 hb hI
    have ei : i = un := by omega
    subst ei
    obtain ⟨-, ⟨⟨o, ⟨⟨s0, -⟩, -⟩, -⟩, -⟩, -, -, -, hU⟩ := id hI
    refine k_So_improve_5 o hpl (m_b32 hb) ⟨by omega, by omega⟩ ?_
    rw [hU.1]
    exact ⟨s0, fun _ => ⟨hb, hb, hI⟩, fun u => absurd (Int.le_refl _) u⟩
  | succ t ih =>
    intro i bt M h1 h2 hb hI
    by_cases ei : i = un
    · exact ih i bt M (by omega) h2 hb hI
    obtain ⟨hN, hS, eR, st, ⟨hrs, ht1⟩, hU⟩ := id hI
    obtain ⟨⟨o, ⟨⟨s0, gs⟩, ⟨r0, -, -, r3, -, r5, r6, -, r8, r9, -⟩, ⟨-, -, k5, k6, -, k8, k9, -⟩, ⟨-, -, n5, n6, -, n8, n9, -⟩⟩, ⟨g0, ⟨q2, -⟩, gk, ⟨m2, -⟩⟩, -, hT⟩, ⟨hF, hSK, hRs, hfw⟩, -, -, ⟨t1, t2, t3, t4, -, t7⟩, hrow, hD⟩ := id hS
    obtain ⟨hc1, hc2, hc3⟩ := hT.1
    obtain ⟨kst, c, lo, hi', e1, hkc, e4, e2, e3, l1, l2⟩ := hU.2.2.2 i (by omega)
    obtain ⟨lo', hi2, f1, f2, f3, f4⟩ := hL kst hkc
    rw [← st (s + 122) st122.1 (by omega)] at f1
    rw [← st (s + 123) st122.2.1 (by omega)] at f2
    have next : ∀ (bt' : Int) (M' : mM), (bt' = 0 ∨ bt' = 1) → imI L W s g a R k cn cc bc un M0 M' → h_So_improve_122 G (d + 6) s pl a bt' i M' (fun x M' => (x = 0 ∨ x = 1) ∧ imI L W s g a R k cn cc bc un M0 M') := fun bt' M' hb' hI' => by
      refine k_So_improve_122 hI'.2.1.1.1 hpl (m_b32 hb') ⟨by omega, by omega⟩ ?_
      rw [show ((i : Int) + 1) = ((i + 1 : Nat) : Int) by omega]
      exact ih (i + 1) bt' M' (by omega) (by omega) hb' hI'
    refine k_So_improve_5 o hpl (m_b32 hb) ⟨by omega, by omega⟩ ?_
    rw [hU.1, r8, n8, r3, q2, m2, r5, r6, n5, n6, r0, Int.toNat_natCast, e1, Int.toNat_natCast, e2, e3]
    refine ⟨s0, fun u => absurd u (by omega), fun _ => ⟨k8, ⟨by omega, by omega⟩, g0, gk 2 (by decide) (by decide), ⟨by omega, by omega⟩, fun _ => ⟨k6, ⟨by omega, by omega⟩, k5, ⟨by omega, by omega⟩, ⟨by omega, by omega⟩⟩, fun _ => next bt M hb hI, fun nn => ⟨k5, ⟨by omega, by omega⟩, k6, ⟨by omega, by omega⟩, fun v33 e33 => ⟨hSK.1.1, ?_⟩⟩⟩⟩
    have v01 : i32 v33 := by rw [e33]; split <;> exact ⟨by decide, by decide⟩
    refine (f_pick (d := d) (S := 17) (B := B) v01 (hS.te.pe hcn) hrs hW (by omega) hB (show lo < hi' by omega) (by omega) hc1 hc3 (fun c' _ hc' => hT.2.1 c' (by omega))).mono (fun x40 M39 q => ?_)
    obtain ⟨p1, p2, p3, p4, p5⟩ := q
    have x1 : NX L W (Tpk (s + 1)) (Cim s) True (s + 1) M M39 := (p1.nx hF).mono hF (fun _ u => u) hN.2.1.1 (fun x u => Or.inl u) (fun x u => hS.cl (n := cn) hcn x u.so) (fun u => u)
    have stb1 : ∀ x, Stb s x → mI M39 x = mI M x := fun x hx => by
      have ne : x ≠ s + 1 := by unfold Stb at hx; omega
      refine ((p1.nx hF).oth (hS.2.2.1 x hx) ne).2.2.2 (fun u => ?_)
      unfold Ipk at u
      unfold Stb at hx
      omega
    have N1 := hN.trans x1
    have U1 : Unk M39 s cn un := unk_same hU (fun x hx _ => stb1 x hx) (stb1 (s + 126) (Or.inr (Or.inr (Or.inr (Or.inr (Or.inr (Or.inr (Or.inr (Or.inl rfl)))))))))
    have I1 := im_mk h0 hcn hr N1 p2 U1
    obtain ⟨-, hS1, eR1, -, ⟨hrs1, ht11⟩, -⟩ := id I1
    obtain ⟨⟨o1, ⟨⟨s01, -⟩, ⟨r01, -⟩, -⟩, -⟩, ⟨hF1, -, -, -⟩, -, -, ⟨t11, t21, t31, t41, -, t71⟩, hrow1, -⟩ := id hS1
    have fr := t71 kst (by omega)
    have ap := hS1.te.2.2.2.1 kst (by omega)
    obtain ⟨i9, -, -⟩ := p2.bt
    have fw := p2.frl i9
    have ob : Osz M39 (mR M39 (s + 1) 9) 139 := ⟨hF1.szv fw.2.1 p3.2.1, hF1.szv fw.2.2 (Int.lt_of_lt_of_le p3.1.2 (p30m (by decide))), p3.2.2.1.1, by have := p3.2.2.1.2; omega⟩
    have orw : Osz M39 (mR M39 R kst) 139 := by
      have sm := hrs1 kst hkc
      have a1 := hF1.szv fr.2.1 sm.2.2
      have a2 := hF1.szv fr.2.2 sm.2.1
      have a3 := ht11 kst hkc
      exact ⟨by omega, by omega, by omega, by omega⟩
    rw [t21, t41, r01]
    refine ⟨⟨by omega, by omega⟩, o1, s01, t11, t31, ⟨by omega, by omega⟩, p2.1.1, (f_orderOfPicked (d := d) o1 hF1 p2 fr ob orw ⟨fun u => ap.1 (Or.inr (Or.inl u)), fun u => ap.2.1 (Or.inr (Or.inl u))⟩ (by have := hW _ (Or.inr (Or.inl (Or.inl rfl))); omega) (by have := hW _ (Or.inr (Or.inl (Or.inr rfl))); omega)).mono (fun x48 M47 q => ?_)⟩
    obtain ⟨n2, xx⟩ := q
    have x2 : NX L W (Tpk (s + 1)) (Cim s) True (s + 1) M39 M47 := (n2.nx hF1).mono hF1 (fun _ u => Or.inr (Or.inl u)) hN.2.1.1 (fun _ u => u.elim) (fun x u => hS1.cl (n := cn) hcn x u.so) (fun u => u.elim)
    have sk2 := n2.sk hF1 p2
    have stb2 : ∀ x, Stb s x → mI M47 x = mI M39 x := fun x hx => by
      have ne : x ≠ s + 1 := by unfold Stb at hx; omega
      exact ((n2.nx hF1).oth (hS1.2.2.1 x hx) ne).2.2.2 (fun u => u)
    have N2 := N1.trans x2
    have U2 : Unk M47 s cn un := unk_same U1 (fun x hx _ => stb2 x hx) (stb2 (s + 126) (Or.inr (Or.inr (Or.inr (Or.inr (Or.inr (Or.inr (Or.inr (Or.inl rfl)))))))))
    have I2 := im_mk h0 hcn hr N2 sk2 U2
    obtain ⟨-, hS2, -, st2, -, -⟩ := id I2
    obtain ⟨⟨o2, ⟨⟨s02, -⟩, ⟨-, -, -, -, -, -, -, -, -, r92, -⟩, ⟨-, -, -, -, -, -, k92, -⟩, ⟨-, -, -, -, -, -, n92, -⟩⟩, -⟩, ⟨hF2, -⟩, hSt2, -⟩ := id hS2
    rw [r92, n92]
    refine ⟨by rcases xx with e | e | e <;> rw [e] <;> exact ⟨by decide, by decide⟩, o2, fun _ => next bt M47 hb I2, fun _ => ⟨s02, k92, ⟨by omega, by omega⟩, fun M58 e58 => ?_⟩⟩
    have f58 : FI (fun z => z = s + 126) M47 M58 := by rw [e58]; exact FI.ui rfl
    have o58 : mOk M58 := by rw [e58]; exact mOk_UI o2 ⟨by omega, by omega⟩
    obtain ⟨x3, -⟩ := f58.nx (T := Tpk (s + 1)) (r := False) (z := s + 1) o58 hF2 hN.2.1.1 (fun x u => by rw [u]; exact hSt2 _ (Or.inr (Or.inr (Or.inr (Or.inr (Or.inr (Or.inr (Or.inr (Or.inl rfl))))))))) hS2.z9
    have x3' : NX L W (Tpk (s + 1)) (Cim s) True (s + 1) M47 M58 := x3.mono hF2 (fun _ u => u) hN.2.1.1 (fun _ u => Or.inr u) (fun x u => hS2.cl (n := cn) hcn x u.so) (fun u => u.elim)
    refine next 1 M58 (Or.inr rfl) (im_mk h0 hcn hr (N2.trans x3') (x3.sk hF2 sk2) ?_)
    have kp : ∀ {x : Nat}, x ≠ s + 126 → mI M58 x = mI M47 x := fun hx => f58.2.2.2.2.2.2 _ hx
    obtain ⟨w1, w2, w3, w4⟩ := U2
    refine ⟨by rw [kp (by omega)]; exact w1, w2, fun j hj => by rw [kp (show s + 124 ≠ s + 126 by omega)]; exact w3 j hj, fun j hj => ?_⟩
    rw [kp (show s + 125 ≠ s + 126 by omega), kp (show s + 122 ≠ s + 126 by omega), kp (show s + 123 ≠ s + 126 by omega), mI_ui _ j e58]
    by_cases cj : j = i
    · rw [if_pos ⟨rfl, cj⟩, cj]
      refine ⟨kst, x40.toNat, lo, hi', ?_, hkc, by omega, ?_, ?_, by omega, by omega⟩
      · rw [stb2 (s + 125) st122.2.2, stb1 (s + 125) st122.2.2]; exact e1
      · rw [stb2 (s + 122) st122.1, stb1 (s + 122) st122.1]; exact e2
      · rw [stb2 (s + 123) st122.2.1, stb1 (s + 123) st122.2.1]; exact e3
    · rw [if_neg (fun u => cj u.2)]
      exact w4 j hj
theorem s_So_improve {pl : Int} (hpl : i32 pl) (h0 : Sva L W s g a R k cn cc bc M) (hcn : cn ≤ k) (hk : k ≤ 512) (hL : LHs M s cn cc) (hU : Unk M s cn un) (hr : Rsm M R cn 17 ∧ Rt1 M R cn) (hW : ∀ x, Tpk (s + 1) x → B ≤ W x) (b1 : 300 ≤ B) (hB : B ≤ 16000) : Ci G y_So_improve (d + 7) [vr s, vi pl, vr a] M (fun x M' => (x = 0 ∨ x = 1) ∧ imI L W s g a R k cn cc bc un M M') := by
  have hF := h0.2.1.1
  refine k_So_improve h0.1.1 hpl ?_
  exact s_im5 hpl h0 hcn hk hL hr hW b1 hB hU.2.1 un 0 0 M (by omega) (by omega) (Or.inl rfl) (im_mk h0 hcn hr (NX.refl h0.1.1 hF h0.2.1.2.1.tpk (fun x u => h0.cl (n := cn) hcn x u.so) h0.z9) h0.2.1.2.1 hU)
end NBU
end
section
/-! The class's Solver: ranks. -/
section NBV
variable {G : mG} {d s g a R cn cc bc i k n c un x y fd : Nat} {M M0 M' M1 M2 M3 : mM} {L : List Nat} {W : Nat → Nat}
theorem s_So_leadsBelow {rd : Int} (hrd : i32 rd) (h : SG M s g cn cc bc) (hf : mK M fd = 30 ∧ mN M fd = 512) (hc : c < cc) : Ci G y_So_leadsBelow d [vr s, vi c, vi rd, vr fd] M (fun x M' => M' = M ∧ (x = 0 ∨ x = 1)) := by
  obtain ⟨o, ⟨⟨s0, -⟩, ⟨-, -, -, r3, -⟩, -⟩, ⟨g0, ⟨-, -, -, q7, q8, -⟩, gk, ⟨-, -, -, m7, m8, -⟩⟩, -, hT⟩ := id h
  obtain ⟨hc1, hc2, hc3⟩ := hT.1
  obtain ⟨x, y, mu, e1, e2, ⟨xy, -⟩, yb, br, -⟩ := hT.2.1 c hc
  refine k_So_leadsBelow o ⟨by omega, by omega⟩ hrd ?_
  rw [r3, q7, m7, Int.toNat_natCast, e1]
  refine ⟨s0, g0, gk 7 (by decide) (by decide), ⟨by omega, by omega⟩, ?_⟩
  suffices HH : ∀ (t i : Nat), y ≤ i + t → x ≤ i → i ≤ y → h_So_leadsBelow_11 G d s c rd fd i M (fun x M' => M' = M ∧ (x = 0 ∨ x = 1)) from HH (y - x) x (by omega) (Nat.le_refl _) (by omega)
  intro t
  induction t with
  | zero =>
    intro i h1 h2 h3
    refine k_So_leadsBelow_11 o ⟨by omega, by omega⟩ hrd ⟨by omega, by omega⟩ ?_
    rw [r3, q7, m7, show Int.toNat ((c : Int) + 1) = c + 1 by omega, e2]
    exact ⟨s0, g0, gk 7 (by decide) (by decide), ⟨by omega, by omega⟩, fun _ => ⟨rfl, Or.inl rfl⟩, fun u => absurd (by omega) u⟩
  | succ t ih =>
    intro i h1 h2 h3
    refine k_So_leadsBelow_11 o ⟨by omega, by omega⟩ hrd ⟨by omega, by omega⟩ ?_
    rw [r3, q7, m7, show Int.toNat ((c : Int) + 1) = c + 1 by omega, e2]
    refine ⟨s0, g0, gk 7 (by decide) (by decide), ⟨by omega, by omega⟩, fun _ => ⟨rfl, Or.inl rfl⟩, fun u => ?_⟩
    obtain ⟨b1, b2, b3⟩ := br i h2 (by omega)
    rw [q8, m8, hf.2, Int.toNat_natCast, show ((i : Int) + 1) = ((i + 1 : Nat) : Int) by omega]
    exact ⟨gk 8 (by decide) (by decide), ⟨by omega, by omega⟩, hf.1, ⟨by omega, by omega⟩, fun _ => ih (i + 1) (by omega) (by omega) (by omega), fun _ => ⟨rfl, Or.inr rfl⟩⟩
theorem s_So_earns {rd : Int} (hrd : i32 rd) (h : SG M s g cn cc bc) (hf : mK M fd = 30 ∧ mN M fd = 512) (hk : k < cn) : Ci G y_So_earns (d + 1) [vr s, vi k, vi rd, vr fd] M (fun x M' => M' = M ∧ (x = 0 ∨ x = 1)) := by
  obtain ⟨o, ⟨⟨s0, -⟩, ⟨-, -, -, r3, -, -, -, -, -, -, r11, -⟩, ⟨-, -, -, -, -, -, -, k11, -⟩, ⟨-, -, -, -, -, -, -, n11, -⟩⟩, ⟨g0, ⟨q2, q4, -⟩, gk, ⟨m2, m4, -⟩⟩, -, hT⟩ := id h
  obtain ⟨hc1, hc2, hc3⟩ := hT.1
  obtain ⟨x, y, e1, e2, xy, yc⟩ := hT.2.2.1 k hk
  refine k_So_earns o ⟨by omega, by omega⟩ hrd ?_
  rw [r3, q2, m2, q4, m4, Int.toNat_natCast, e1]
  refine ⟨s0, g0, gk 2 (by decide) (by decide), ⟨by omega, by omega⟩, fun v6 e6 => ⟨gk 4 (by decide) (by decide), ⟨by omega, by omega⟩, ?_⟩⟩
  have v01 : v6 = 0 ∨ v6 = 1 := by rw [e6]; split <;> omega
  suffices HH : ∀ (t c : Nat), y ≤ c + t → x ≤ c → c ≤ y → h_So_earns_31 G d s k rd fd v6 c M (fun x M' => M' = M ∧ (x = 0 ∨ x = 1)) from HH (y - x) x (by omega) (Nat.le_refl _) (by omega)
  have fin : ∀ v27 : Int, v27 = (if (v6 = 0) then 1 else 0) → M = M ∧ (v27 = 0 ∨ v27 = 1) := fun v27 e => ⟨rfl, by rw [e]; split <;> omega⟩
  intro t
  induction t with
  | zero =>
    intro c h1 h2 h3
    refine k_So_earns_31 o ⟨by omega, by omega⟩ hrd (m_b32 v01) ⟨by omega, by omega⟩ ?_
    rw [r3, q4, m4, show Int.toNat ((k : Int) + 1) = k + 1 by omega, e2]
    exact ⟨s0, g0, gk 4 (by decide) (by decide), ⟨by omega, by omega⟩, fun _ => fin, fun u => absurd (by omega) u⟩
  | succ t ih =>
    intro c h1 h2 h3
    refine k_So_earns_31 o ⟨by omega, by omega⟩ hrd (m_b32 v01) ⟨by omega, by omega⟩ ?_
    rw [r3, q4, m4, show Int.toNat ((k : Int) + 1) = k + 1 by omega, e2]
    refine ⟨s0, g0, gk 4 (by decide) (by decide), ⟨by omega, by omega⟩, fun _ => fin, fun u => ?_⟩
    rw [r11, n11, Int.toNat_natCast, show ((c : Int) + 1) = ((c + 1 : Nat) : Int) by omega]
    refine ⟨k11, ⟨by omega, by omega⟩, fun _ => ih (c + 1) (by omega) (by omega) (by omega), fun _ => (s_So_leadsBelow (d := d) hrd h hf (show c < cc by omega)).mono (fun x38 M37 q => ?_)⟩
    rw [q.1]
    exact ⟨m_b32 q.2, o, fun _ => ⟨v01, rfl, v01⟩, fun _ => ih (c + 1) (by omega) (by omega) (by omega)⟩
/-- ranks are filled in -/
def frI (L : List Nat) (W : Nat → Nat) (s g a R k cn cc bc fd : Nat) (M0 M : mM) : Prop := mOk M ∧ FI (fun z => z = fd) M0 M ∧ Sva L W s g a R k cn cc bc M
theorem fr_mk (h : Sva L W s g a R k cn cc bc M0) (hcn : cn ≤ k) (hfd : Stb s fd ∧ fd ≠ s) (o : mOk M) (f : FI (fun z => z = fd) M0 M) : frI L W s g a R k cn cc bc fd M0 M := by
  have hF := h.2.1.1
  obtain ⟨x, -⟩ := f.nx (T := Tso s M0 R cn) (r := False) (z := s + 1) o hF (h.tl hcn) (fun x u => by rw [u]; exact h.2.2.1 fd hfd.1) h.z9
  have x' : NX L W (Tso s M0 R cn) (Cso s M0 R cn) False (s + 1) M0 M := x.mono hF (fun _ u => u) (h.tl hcn) (fun x u => Or.inr (Or.inl (by rw [u]; exact hfd.1))) (h.cl hcn) (fun u => u)
  exact ⟨o, f, (h.nx hcn x' (x.sk hF h.2.1.2.1)).1⟩
theorem s_So_fillRanks (h : Sva L W s g a R k cn cc bc M) (hcn : cn ≤ k) (hk : k ≤ 512) (hfd : fd = s + 29 ∨ fd = s + 129) : Cv G y_So_fillRanks (d + 3) [vr s, vr a, vr fd] M (frI L W s g a R k cn cc bc fd M) := by
  have hSt : Stb s fd ∧ fd ≠ s := by
    unfold Stb
    omega
  have kf : ∀ {M1 : mM}, Sva L W s g a R k cn cc bc M1 → mK M1 fd = 30 ∧ mN M1 fd = 512 := fun h => by
    obtain ⟨⟨-, ⟨-, -, ⟨k1, -, -, -, -, -, -, -, k12⟩, ⟨n1, -, -, -, -, -, -, -, n12⟩⟩, -⟩, -⟩ := h
    rcases hfd with e | e <;> rw [e]
    · exact ⟨k1, n1⟩
    · exact ⟨k12, n12⟩
  have st : ∀ {M1 : mM} {j : Nat} {v : Int}, frI L W s g a R k cn cc bc fd M M1 → i32 v → ∀ M2, M2 = mUI M1 fd j v → frI L W s g a R k cn cc bc fd M M2 := fun hI hv M2 e => fr_mk h hcn hSt (by rw [e]; exact mOk_UI hI.1 hv) (hI.2.1.trans (by rw [e]; exact FI.ui rfl))
  refine k_So_fillRanks h.1.1 ?_
  -- the rounds
  have R45 : ∀ (t rn : Nat) (l3 : Int) (M1 : mM), 513 ≤ rn + t → 1 ≤ rn → rn ≤ 513 → (l3 = 0 ∨ l3 = 1) → frI L W s g a R k cn cc bc fd M M1 → h_So_fillRanks_45 G (d + 2) s a fd l3 rn M1 (frI L W s g a R k cn cc bc fd M) := by
    intro t
    induction t with
    | zero =>
      intro rn l3 M1 h1 h2 h3 hl hI
      exact k_So_fillRanks_45 hI.1 (m_b32 hl) ⟨by omega, by omega⟩ ⟨fun _ => hI, fun u => absurd (Or.inl (by omega)) u⟩
    | succ t ih =>
      intro rn l3 M1 h1 h2 h3 hl hI
      refine k_So_fillRanks_45 hI.1 (m_b32 hl) ⟨by omega, by omega⟩ ⟨fun _ => hI, fun u => ?_⟩
      have rl : rn ≤ 512 := by
        by_cases c : (512 : Int) < rn
        · exact absurd (Or.inl c) u
        · omega
      suffices HH : ∀ (t j : Nat) (l3 : Int) (M1 : mM), cn ≤ j + t → j ≤ cn → (l3 = 0 ∨ l3 = 1) → frI L W s g a R k cn cc bc fd M M1 → h_So_fillRanks_62 G (d + 2) s a fd l3 rn j M1 (frI L W s g a R k cn cc bc fd M) from HH cn 0 0 M1 (by omega) (by omega) (Or.inl rfl) hI
      intro t2
      induction t2 with
      | zero =>
        intro j l3 M1 h1' h2' hl' hI'
        obtain ⟨-, -, ⟨⟨o, ⟨⟨s0, -⟩, ⟨-, -, -, r3, -⟩, -⟩, ⟨g0, -⟩, -, hT⟩, -⟩⟩ := id hI'
        have hc1 := hT.1.1
        refine k_So_fillRanks_62 o (m_b32 hl') ⟨by omega, by omega⟩ ⟨by omega, by omega⟩ ?_
        rw [r3, hT.2.2.2, show ((rn : Int) + 1) = ((rn + 1 : Nat) : Int) by omega]
        exact ⟨s0, g0, fun _ => ih (rn + 1) l3 M1 (by omega) (by omega) (by omega) hl' hI', fun u => absurd (by omega) u⟩
      | succ t2 ih2 =>
        intro j l3 M1 h1' h2' hl' hI'
        by_cases ej : j = cn
        · exact ih2 j l3 M1 (by omega) h2' hl' hI'
        have hS1 := hI'.2.2
        obtain ⟨⟨o, ⟨⟨s0, -⟩, ⟨-, -, -, r3, -⟩, -⟩, ⟨g0, -⟩, -, hT⟩, ⟨hF, -⟩, -, -, ⟨t1, t2', t3, t4, -, t7⟩, -, -⟩ := id hS1
        have hc1 := hT.1.1
        obtain ⟨kd, nd⟩ := kf hS1
        have fr := t7 j (by omega)
        refine k_So_fillRanks_62 o (m_b32 hl') ⟨by omega, by omega⟩ ⟨by omega, by omega⟩ ?_
        rw [r3, hT.2.2.2, kd, nd, t2', t4, Int.toNat_natCast, fr.1.2.1.1, show ((j : Int) + 1) = ((j + 1 : Nat) : Int) by omega]
        refine ⟨s0, g0, fun u => absurd u (by omega), fun _ => ⟨rfl, ⟨by omega, by omega⟩, fun _ => ⟨t1, t3, ⟨by omega, by omega⟩, fr.1.1, hF.kd fr.2.1⟩, fun _ => ih2 (j + 1) l3 M1 (by omega) (by omega) hl' hI', fun _ => (s_So_earns (d := d + 1) (rd := ((rn : Nat) : Int)) ⟨by omega, by omega⟩ hS1.1 ⟨kd, nd⟩ (show j < cn by omega)).mono (fun x59 M58 q => ?_)⟩⟩
        rw [q.1, kd, nd]
        refine ⟨m_b32 q.2, o, fun _ => ⟨rfl, ⟨by omega, by omega⟩⟩, fun v64 e64 M65 e65 => ?_⟩
        by_cases cx : x59 = 0
        · rw [if_pos cx] at e64 e65
          rw [e64, e65]
          exact ⟨o, ih2 (j + 1) l3 M1 (by omega) (by omega) hl' hI'⟩
        · rw [if_neg cx] at e64 e65
          have I2 := st hI' (show i32 ((rn : Nat) : Int) from ⟨by omega, by omega⟩) M65 e65
          rw [e64]
          exact ⟨I2.1, ih2 (j + 1) 1 M65 (by omega) (by omega) (Or.inr rfl) I2⟩
  suffices HH : ∀ (t j : Nat) (M1 : mM), cn ≤ j + t → j ≤ cn → frI L W s g a R k cn cc bc fd M M1 → h_So_fillRanks_2 G (d + 2) s a fd j M1 (frI L W s g a R k cn cc bc fd M) from HH cn 0 M (by omega) (by omega) ⟨h.1.1, FI.refl, h⟩
  intro t
  induction t with
  | zero =>
    intro j M1 h1 h2 hI
    obtain ⟨-, -, ⟨⟨o, ⟨⟨s0, -⟩, ⟨-, -, -, r3, -⟩, -⟩, ⟨g0, -⟩, -, hT⟩, -⟩⟩ := id hI
    have hc1 := hT.1.1
    refine k_So_fillRanks_2 o ⟨by omega, by omega⟩ ?_
    rw [r3, hT.2.2.2]
    exact ⟨s0, g0, fun _ => R45 512 1 1 M1 (by omega) (by omega) (by omega) (Or.inr rfl) hI, fun u => absurd (by omega) u⟩
  | succ t ih =>
    intro j M1 h1 h2 hI
    obtain ⟨-, -, ⟨⟨o, ⟨⟨s0, -⟩, ⟨-, -, -, r3, -⟩, -⟩, ⟨g0, ⟨q2, -⟩, gk, ⟨m2, -⟩⟩, -, hT⟩, -⟩⟩ := id hI
    have hc1 := hT.1.1
    obtain ⟨kd, nd⟩ := kf hI.2.2
    refine k_So_fillRanks_2 o ⟨by omega, by omega⟩ ?_
    rw [r3, hT.2.2.2, q2, m2, kd, nd, Int.toNat_natCast, show ((j : Int) + 1) = ((j + 1 : Nat) : Int) by omega]
    refine ⟨s0, g0, fun _ => R45 512 1 1 M1 (by omega) (by omega) (by omega) (Or.inr rfl) hI, fun u => ⟨gk 2 (by decide) (by decide), ⟨by omega, by omega⟩, fun v10 e10 => ⟨rfl, ⟨by omega, by omega⟩, fun M16 e16 => ?_⟩⟩⟩
    have vi' : i32 v10 := by rw [e10]; split <;> exact ⟨by decide, by decide⟩
    exact ih (j + 1) M16 (by omega) (by omega) (st hI vi' M16 e16)
end NBV
end
section
/-! The class's Solver: commands that attain. -/
section NBW
variable {G : mG} {d s g a R cn cc bc i k n c un x y fd B : Nat} {M M0 M' M1 M2 M3 : mM} {L : List Nat} {W : Nat → Nat}
theorem and01 {x y : Int} (hx : x = 0 ∨ x = 1) (hy : y = 0 ∨ y = 1) : andI x y = 0 ∨ andI x y = 1 := by
  rcases hx with e | e <;> rcases hy with e' | e' <;> rw [e, e'] <;> decide
theorem or01 {x y : Int} (hx : x = 0 ∨ x = 1) (hy : y = 0 ∨ y = 1) : orI x y = 0 ∨ orI x y = 1 := by
  rcases hx with e | e <;> rcases hy with e' | e' <;> rw [e, e'] <;> decide
def Tat (s x : Nat) : Prop := Tpk (s + 1) x ∨ T2 (s + 130) x
def Cat (s x : Nat) : Prop := x = s + 130 ∨ x = s + 128
theorem Cat.so {R' : Nat} (h : Cat s x) : Cso s M R' n x := h.elim (fun u => Or.inr (Or.inr (Or.inr (Or.inr (Or.inl u))))) (fun u => Or.inr (Or.inl (Or.inr (Or.inr (Or.inr (Or.inr (Or.inr (Or.inr (Or.inr (Or.inr (Or.inl u)))))))))))
/-- while commands are marked -/
def atI (L : List Nat) (W : Nat → Nat) (s g a R k cn cc bc : Nat) (M0 M : mM) : Prop := NX L W (Tat s) (Cat s) False (s + 1) M0 M ∧ Sva L W s g a R k cn cc bc M ∧ mR M R = mR M0 R ∧ (∀ x, Stb s x → x ≠ s + 128 → mI M x = mI M0 x) ∧ (Rsm M R cn 17 ∧ Rt1 M R cn) ∧ ∀ i, i ≤ 9 → mI M (g + i) = mI M0 (g + i)
theorem at_mk (h : Sva L W s g a R k cn cc bc M0) (hcn : cn ≤ k) (hr : Rsm M0 R cn 17 ∧ Rt1 M0 R cn) (q : NX L W (Tat s) (Cat s) False (s + 1) M0 M) : atI L W s g a R k cn cc bc M0 M := by
  have hF := h.2.1.1
  have q' : NX L W (Tso s M0 R cn) (Cso s M0 R cn) False (s + 1) M0 M := q.mono hF (fun _ u => u.elim Or.inl (fun u => Or.inr (Or.inr (Or.inl u)))) (h.tl hcn) (fun x u => u.so) (h.cl hcn) (fun u => u)
  obtain ⟨e1, e2, e3⟩ := h.nx hcn q' (q.sk hF h.2.1.2.1)
  have rv : ∀ i, i < cn → nv M (mR M0 R i + 1) = nv M0 (mR M0 R i + 1) ∧ nv M (mR M0 R i + 3) = nv M0 (mR M0 R i + 3) ∧ mI M (mR M0 R i) = mI M0 (mR M0 R i) := fun i hi => by
    have f := h.2.2.2.2.1.2.2.2.2.2 i (by omega)
    have ap := h.te.2.2.2.1 i (by omega)
    have hb := h.2.2.2.2.2.1 i (by omega)
    refine ⟨(q.num hF f.2.1 (fun u => u.elim ap.1 (fun u => by unfold T2 at u; omega))).2.2, (q.num hF f.2.2 (fun u => u.elim ap.2.1 (fun u => by unfold T2 at u; omega))).2.2, (q.frl hF f).2 (fun u => ?_)⟩
    unfold Cat at u
    omega
  refine ⟨q, e1, e3, fun x hx nx => ?_, ⟨fun i hi => ?_, fun i hi => ?_⟩, e2⟩
  · have ne : x ≠ s + 1 := by unfold Stb at hx; omega
    refine (q.oth (h.2.2.1 x hx) ne).2.2.2 (fun u => ?_)
    unfold Cat at u
    unfold Stb at hx
    omega
  · rw [e3, (rv i hi).1, (rv i hi).2.1]; exact hr.1 i hi
  · rw [e3, (rv i hi).2.2]; exact hr.2 i hi
theorem Sva.we (h : Sva L W s g a R k cn cc bc M) (hcn : cn ≤ k) : We L W (s + 1) (s + 130) g a R cn M := by
  obtain ⟨⟨h1, h2, h3⟩, h4, h5, -⟩ := h.te
  refine ⟨⟨h1, h2, h3, h.2.1.2.2.2⟩, h4, h5.ws hcn, fun i hi => ?_⟩
  have := h.2.2.2.2.2.1 i (by omega)
  unfold Dwg Twg T4
  omega
theorem tw_at {z : Nat} (h : Twg (s + 1) (s + 130) z) : Tat s z := by
  rcases h with u | u | u | u | u | u
  · exact Or.inl (Or.inl u)
  · exact Or.inl (Or.inr (Or.inl (Or.inr u)))
  · exact Or.inl (Or.inr (Or.inr (Or.inl (Or.inl u))))
  · exact Or.inl (Or.inr (Or.inr (Or.inl (Or.inr u))))
  · exact Or.inr (Or.inl u)
  · exact Or.inr (Or.inr u)
theorem Sva.tat (h : Sva L W s g a R k cn cc bc M) : ∀ t, Tat s t → t ∈ L := fun t ht => ht.elim (h.2.1.2.1.tpk t) (h.2.1.2.2.2.t2 t)
theorem Sva.cat (h : Sva L W s g a R k cn cc bc M) (hcn : cn ≤ k) : ∀ x, Cat s x → Oc L M x := fun x u => h.cl (n := cn) hcn x u.so
/-- the worth against a row -/
theorem s_atOrder {Q : Int → mM → Prop} (h0 : Sva L W s g a R k cn cc bc M0) (hcn : cn ≤ k) (hr : Rsm M0 R cn 17 ∧ Rt1 M0 R cn) (hI : atI L W s g a R k cn cc bc M0 M) (hw : Osz M (s + 130) 139) (hi : i < cn) (hW : ∀ x, Tat s x → B ≤ W x) (b1 : 300 ≤ B)
    (hQ : ∀ x M', (x = -1 ∨ x = 0 ∨ x = 1) → atI L W s g a R k cn cc bc M0 M' → Q x M') : mK M s = 8 ∧ mK M (mR M s 0) = 9 ∧ Ci G y_Sc_order (d + 5) [vr (mR M s 0), vr (mR M s 17), vr (mR M0 R i)] M (fun x M' => i32 x ∧ mOk M' ∧ Q x M') := by
  obtain ⟨hN, hS, eR, st, ⟨hrs, ht1⟩, -⟩ := id hI
  obtain ⟨⟨o, ⟨⟨s0, -⟩, ⟨r0, -, -, -, -, -, -, -, -, -, -, -, r13⟩, -⟩, -⟩, ⟨hF, hSK, -, hfw⟩, -, -, ⟨-, -, -, -, -, t7⟩, hrow, -⟩ := id hS
  have fr := t7 i (by omega)
  have hb := hrow i (by omega)
  have ap := hS.te.2.2.2.1 i (by omega)
  have sm := hrs i hi
  have a1 := hF.szv fr.2.1 sm.2.2
  have a2 := hF.szv fr.2.2 sm.2.1
  have a3 := ht1 i hi
  rw [r0, r13, ← eR]
  refine ⟨s0, hSK.1.1, (f_Sc_order (d := d) (s := 139) ⟨o, hF, hSK, hfw, fr⟩ hw ⟨by omega, by omega, by omega, by omega⟩ (by unfold Tor; omega) ⟨fun u => ap.1 (Or.inr (Or.inl u)), fun u => ap.2.1 (Or.inr (Or.inl u))⟩ (by have := hW _ (Or.inl (Or.inr (Or.inl (Or.inl rfl)))); omega) (by have := hW _ (Or.inl (Or.inr (Or.inl (Or.inr rfl)))); omega)).mono (fun x M' q => ?_)⟩
  obtain ⟨n1, xx⟩ := q
  have x1 : NX L W (Tat s) (Cat s) False (s + 1) M M' := (n1.nx hF).mono hF (fun _ u => Or.inl (Or.inr (Or.inl u))) hS.tat (fun _ u => u.elim) (hS.cat hcn) (fun u => u)
  exact ⟨by rcases xx with e | e | e <;> rw [e] <;> exact ⟨by decide, by decide⟩, n1.ok, hQ x M' xx (at_mk h0 hcn hr (hN.trans x1))⟩
theorem s_at138 {v60 : Int} (h60 : v60 = 1 ∨ v60 = -1) (h0 : Sva L W s g a R k cn cc bc M0) (hcn : cn ≤ k) (hk : k ≤ 512) (hr : Rsm M0 R cn 17 ∧ Rt1 M0 R cn) (hi : i < cn) (ex : mI M0 (g + 4) i = ((x : Nat) : Int)) (ey : mI M0 (g + 4) (i + 1) = ((y : Nat) : Int)) (xy : x ≤ y ∧ y ≤ cc) (hW : ∀ x, Tat s x → B ≤ W x) (b1 : 300 ≤ B) (hB : B ≤ 16000)
    (hQ : ∀ (rt : Int) (M' : mM), (rt = 0 ∨ rt = 1) → atI L W s g a R k cn cc bc M0 M' → h_So_attain_4 G (d + 5) s a rt ((i : Int) + 1) M' (fun x M' => (x = 0 ∨ x = 1) ∧ atI L W s g a R k cn cc bc M0 M')) : ∀ (t c : Nat) (rt mt : Int) (M : mM), y ≤ c + t → x ≤ c → c ≤ y → (rt = 0 ∨ rt = 1) → (mt = 0 ∨ mt = 1) → atI L W s g a R k cn cc bc M0 M → h_So_attain_138 G (d + 5) s a rt i (mR M0 R i) mt v60 c M (fun x M' => (x = 0 ∨ x = 1) ∧ atI L W s g a R k cn cc bc M0 M') := by
  have i60 : i32 v60 := by rcases h60 with e | e <;> rw [e] <;> exact ⟨by decide, by decide⟩
  obtain ⟨hc1, hc2, hc3⟩ := h0.1.2.2.2.2.1
  intro t
  induction t with
  | zero =>
    intro c rt mt M h1 h2 h3 hrt hmt hI
    obtain ⟨-, ⟨⟨o, ⟨⟨s0, -⟩, ⟨-, -, -, r3, -⟩, -⟩, ⟨g0, ⟨-, q4, -⟩, gk, ⟨-, m4, -⟩⟩, -⟩, -⟩, -, -, -, gi⟩ := id hI
    refine k_So_attain_138 o (m_b32 hrt) ⟨by omega, by omega⟩ (m_b32 hmt) i60 ⟨by omega, by omega⟩ ?_
    rw [r3, q4, m4, show Int.toNat ((i : Int) + 1) = i + 1 by omega, gi 4 (by decide), ey]
    exact ⟨s0, g0, gk 4 (by decide) (by decide), ⟨by omega, by omega⟩, fun _ => hQ _ M (and01 hrt hmt) hI, fun u => absurd (by omega) u⟩
  | succ t ih =>
    intro c rt mt M h1 h2 h3 hrt hmt hI
    obtain ⟨hN, hS, eR, st, ⟨hrs, ht1⟩, gi⟩ := id hI
    obtain ⟨⟨o, ⟨⟨s0, -⟩, ⟨r0, -, -, r3, -, -, -, -, -, -, -, -, r13⟩, -⟩, ⟨g0, ⟨-, q4, -⟩, gk, ⟨-, m4, -⟩⟩, -, hT⟩, ⟨hF, hSK, -, hfw⟩, -⟩ := id hS
    refine k_So_attain_138 o (m_b32 hrt) ⟨by omega, by omega⟩ (m_b32 hmt) i60 ⟨by omega, by omega⟩ ?_
    rw [r3, q4, m4, show Int.toNat ((i : Int) + 1) = i + 1 by omega, gi 4 (by decide), ey, r0, r13]
    refine ⟨s0, g0, gk 4 (by decide) (by decide), ⟨by omega, by omega⟩, fun _ => hQ _ M (and01 hrt hmt) hI, fun u => ⟨hSK.1.1, ?_⟩⟩
    obtain ⟨mu, hm, kw⟩ := f_weigh (G := G) (d := d) (B := B) (S := 17) (hS.we hcn) hrs (fun z hz => hW z (tw_at hz)) (by omega) hB (show c < 4096 by omega) hc1 hc3 (hT.2.1 c (by omega))
    refine kw.mono (fun M74 q => ?_)
    obtain ⟨n1, u1, u2, u3, -⟩ := q
    have x1 : NX L W (Tat s) (Cat s) False (s + 1) M M74 := (n1.nx hF).mono hF (fun _ z => tw_at z) hS.tat (fun _ z => Or.inl z) (hS.cat hcn) (fun z => z)
    have I1 := at_mk h0 hcn hr (hN.trans x1)
    have F1 := n1.nf
    have ow : Osz M74 (s + 130) 139 := ⟨F1.szv hfw.2.1 u2, F1.szv hfw.2.2 (Int.lt_of_lt_of_le u1.2 (p30m (by decide))), by rw [u3]; omega, by rw [u3]; omega⟩
    have key : ∀ (x80 : Int) (M79 : mM), (x80 = -1 ∨ x80 = 0 ∨ x80 = 1) → atI L W s g a R k cn cc bc M0 M79 → (mK M79 s = 8 ∧ ∀ v84 : Int, v84 = (if (x80 = 0) then 1 else 0) → mK M79 (mR M79 s 15) = 31 ∧ ((0 : Int) ≤ (c : Int) ∧ (c : Int) < (mN M79 (mR M79 s 15) : Int)) ∧ ∀ M91, M91 = mUI M79 (mR M79 s 15) (Int.toNat c) v84 → ∀ v94 : Int, v94 = (if (x80 = 0) then 1 else 0) → ∀ v100 : Int, v100 = (if (x80 = v60) then 0 else 1) → h_So_attain_138 G (d + 5) s a (andI rt v100) i (mR M0 R i) (orI mt v94) v60 ((c : Int) + 1) M91 (fun x M' => (x = 0 ∨ x = 1) ∧ atI L W s g a R k cn cc bc M0 M')) := by
      intro x80 M79 xx I2
      obtain ⟨hN2, hS2, -, -, -, -⟩ := id I2
      obtain ⟨⟨o2, ⟨⟨s02, -⟩, ⟨-, -, -, -, -, -, -, -, -, -, r11, -⟩, ⟨-, -, -, -, -, -, -, k11, -⟩, ⟨-, -, -, -, -, -, -, n11, -⟩⟩, -⟩, ⟨hF2, -⟩, hSt2, -⟩ := id hS2
      rw [r11, n11, Int.toNat_natCast, show ((c : Int) + 1) = ((c + 1 : Nat) : Int) by omega]
      refine ⟨s02, fun v84 e84 => ⟨k11, ⟨by omega, by omega⟩, fun M91 e91 v94 e94 v100 e100 => ?_⟩⟩
      have b84 : v84 = 0 ∨ v84 = 1 := by rw [e84]; split <;> omega
      have b94 : v94 = 0 ∨ v94 = 1 := by rw [e94]; split <;> omega
      have b100 : v100 = 0 ∨ v100 = 1 := by rw [e100]; split <;> omega
      have f91 : FI (fun z => z = s + 128) M79 M91 := by rw [e91]; exact FI.ui rfl
      have o91 : mOk M91 := by rw [e91]; exact mOk_UI o2 (m_b32 b84)
      obtain ⟨x3, -⟩ := f91.nx (T := Tat s) (r := False) (z := s + 1) o91 hF2 hS2.tat (fun z hz => hS2.cat hcn z (Or.inr hz)) hS2.z9
      have x3' : NX L W (Tat s) (Cat s) False (s + 1) M79 M91 := x3.mono hF2 (fun _ z => z) hS2.tat (fun _ z => Or.inr z) (hS2.cat hcn) (fun z => z)
      exact ih (c + 1) _ _ M91 (by omega) (by omega) (by omega) (and01 hrt b100) (or01 hmt b94) (at_mk h0 hcn hr (hN2.trans x3'))
    obtain ⟨w1, w2, w3⟩ := s_atOrder (G := G) (d := d) (Q := fun x80 M79 => mK M79 s = 8 ∧ ∀ v84 : Int, v84 = (if (x80 = 0) then 1 else 0) → mK M79 (mR M79 s 15) = 31 ∧ ((0 : Int) ≤ (c : Int) ∧ (c : Int) < (mN M79 (mR M79 s 15) : Int)) ∧ ∀ M91, M91 = mUI M79 (mR M79 s 15) (Int.toNat c) v84 → ∀ v94 : Int, v94 = (if (x80 = 0) then 1 else 0) → ∀ v100 : Int, v100 = (if (x80 = v60) then 0 else 1) → h_So_attain_138 G (d + 5) s a (andI rt v100) i (mR M0 R i) (orI mt v94) v60 ((c : Int) + 1) M91 (fun x M' => (x = 0 ∨ x = 1) ∧ atI L W s g a R k cn cc bc M0 M')) h0 hcn hr I1 ow hi hW b1 key
    exact ⟨n1.ok, w1, w2, w3⟩
theorem s_So_attain (h0 : Sva L W s g a R k cn cc bc M) (hcn : cn ≤ k) (hk : k ≤ 512) (hr : Rsm M R cn 17 ∧ Rt1 M R cn) (hW : ∀ x, Tat s x → B ≤ W x) (b1 : 300 ≤ B) (hB : B ≤ 16000) : Ci G y_So_attain (d + 6) [vr s, vr a] M (fun x M' => (x = 0 ∨ x = 1) ∧ atI L W s g a R k cn cc bc M M') := by
  obtain ⟨hc1, hc2, hc3⟩ := h0.1.2.2.2.2.1
  refine k_So_attain h0.1.1 ?_
  suffices HH : ∀ (t i : Nat) (rt : Int) (M1 : mM), cn ≤ i + t → i ≤ cn → (rt = 0 ∨ rt = 1) → atI L W s g a R k cn cc bc M M1 → h_So_attain_4 G (d + 5) s a rt i M1 (fun x M' => (x = 0 ∨ x = 1) ∧ atI L W s g a R k cn cc bc M M') from
    HH cn 0 1 M (by omega) (by omega) (Or.inr rfl) (at_mk h0 hcn hr (NX.refl h0.1.1 h0.2.1.1 h0.tat (h0.cat hcn) h0.z9))
  intro t
  induction t with
  | zero =>
    intro i rt M1 h1 h2 hrt hI
    obtain ⟨-, ⟨⟨o, ⟨⟨s0, -⟩, ⟨-, -, -, r3, -⟩, -⟩, ⟨g0, -⟩, -, hT⟩, -⟩, -⟩ := id hI
    refine k_So_attain_4 o (m_b32 hrt) ⟨by omega, by omega⟩ ?_
    rw [r3, hT.2.2.2]
    exact ⟨s0, g0, fun _ => ⟨hrt, hrt, hI⟩, fun u => absurd (by omega) u⟩
  | succ t ih =>
    intro i rt M1 h1 h2 hrt hI
    by_cases ei : i = cn
    · exact ih i rt M1 (by omega) h2 hrt hI
    have hi : i < cn := by omega
    obtain ⟨hN, hS, eR, st, ⟨hrs, ht1⟩, gi⟩ := id hI
    obtain ⟨⟨o, ⟨⟨s0, -⟩, ⟨r0, -, -, r3, -, -, -, -, -, -, -, -, r13⟩, -⟩, ⟨g0, ⟨q2, q4, -⟩, gk, ⟨m2, m4, -⟩⟩, -, hT⟩, ⟨hF, hSK, -, hfw⟩, -, -, ⟨t1, t2, t3, t4, -, t7⟩, -, -⟩ := id hS
    obtain ⟨x, y, x1, y1, xy, yc⟩ := hT.2.2.1 i hi
    have x1' : mI M (g + 4) i = ((x : Nat) : Int) := by rw [← gi 4 (by decide)]; exact x1
    have y1' : mI M (g + 4) (i + 1) = ((y : Nat) : Int) := by rw [← gi 4 (by decide)]; exact y1
    have nxt : ∀ (rt : Int) (M' : mM), (rt = 0 ∨ rt = 1) → atI L W s g a R k cn cc bc M M' → h_So_attain_4 G (d + 5) s a rt ((i : Int) + 1) M' (fun x M' => (x = 0 ∨ x = 1) ∧ atI L W s g a R k cn cc bc M M') := fun rt' M' hrt' hI' => by
      rw [show ((i : Int) + 1) = ((i + 1 : Nat) : Int) by omega]
      exact ih (i + 1) rt' M' (by omega) (by omega) hrt' hI'
    have s107 : ∀ (rt mt : Int) (M2 : mM), (rt = 0 ∨ rt = 1) → (mt = 0 ∨ mt = 1) → atI L W s g a R k cn cc bc M M2 → h_So_attain_107 G (d + 5) s a rt i (mR M R i) mt M2 (fun x M' => (x = 0 ∨ x = 1) ∧ atI L W s g a R k cn cc bc M M') := fun rt mt M2 hrt' hmt' hI' => by
      obtain ⟨-, ⟨⟨o', ⟨⟨s0', -⟩, ⟨-, -, -, r3', -⟩, -⟩, ⟨g0', ⟨q2', q4', -⟩, gk', ⟨m2', m4', -⟩⟩, -, -⟩, -⟩, -, -, -, gi'⟩ := id hI'
      refine k_So_attain_107 o' (m_b32 hrt') ⟨by omega, by omega⟩ (m_b32 hmt') ?_
      rw [r3', q2', m2', q4', m4', Int.toNat_natCast, gi' 4 (by decide), x1']
      refine ⟨s0', g0', gk' 2 (by decide) (by decide), ⟨by omega, by omega⟩, fun v60 e60 => ⟨gk' 4 (by decide) (by decide), ⟨by omega, by omega⟩, ?_⟩⟩
      have h60 : v60 = 1 ∨ v60 = -1 := by rw [e60]; split <;> omega
      exact s_at138 (d := d) h60 h0 hcn hk hr hi x1' y1' ⟨xy, yc.1⟩ hW b1 hB nxt (y - x) x rt mt M2 (by omega) (Nat.le_refl _) (by omega) hrt' hmt' hI'
    refine k_So_attain_4 o (m_b32 hrt) ⟨by omega, by omega⟩ ?_
    rw [r3, hT.2.2.2, t2, t4, q4, m4, q2, m2, r13, Int.toNat_natCast, show Int.toNat ((i : Int) + 1) = i + 1 by omega, eR]
    refine ⟨s0, g0, fun u => absurd u (by omega), fun _ => ⟨t1, t3, ⟨by omega, by omega⟩, gk 4 (by decide) (by decide), ⟨by omega, by omega⟩, ⟨by omega, by omega⟩, fun v20 e20 => ?_⟩⟩
    have b20 : v20 = 0 ∨ v20 = 1 := by rw [e20]; split <;> omega
    refine ⟨fun _ => s107 rt v20 M1 hrt b20 hI, fun _ => ⟨gk 2 (by decide) (by decide), ⟨by omega, by omega⟩, fun v32 e32 => ⟨hfw.1.1, ?_⟩⟩⟩
    have b32 : 0 ≤ v32 ∧ v32 < 1073741824 := by rw [e32]; split <;> omega
    refine (f_Fr_put0 (d := d + 4) b32 o hF hfw hSK.z9).mono (fun M38 q => ?_)
    obtain ⟨n1, p1, p3, p2⟩ := q
    have x38 : NX L W (Tat s) (Cat s) False (s + 1) M1 M38 := (n1.nx hF).mono hF (fun _ z => Or.inr z) hS.tat (fun _ z => Or.inl z) (hS.cat hcn) (fun z => z)
    have I1 := at_mk h0 hcn hr (hN.trans x38)
    have F1 := n1.nf
    have ow : Osz M38 (s + 130) 139 := ⟨F1.szv hfw.2.1 (by rw [p1]; exact Int.lt_of_lt_of_le b32.2 (by rw [show (1073741824 : Int) = 2 ^ (30 * 1) by decide]; exact p30m (by decide))), F1.szv hfw.2.2 (by rw [p3]; exact Int.lt_of_lt_of_le (show (1 : Int) < 2 ^ (30 * 1) by decide) (p30m (by decide))), by rw [p2]; decide, by rw [p2]; decide⟩
    obtain ⟨w1, w2, w3⟩ := s_atOrder (G := G) (d := d) (Q := fun x44 M43 => ∀ v47 : Int, v47 = (if (x44 = 0) then 1 else 0) → h_So_attain_107 G (d + 5) s a (andI rt v47) i (mR M R i) v20 M43 (fun x M' => (x = 0 ∨ x = 1) ∧ atI L W s g a R k cn cc bc M M')) h0 hcn hr I1 ow hi hW b1 (fun x44 M43 xx I2 v47 e47 => s107 _ _ M43 (and01 hrt (by rw [e47]; split <;> omega)) b20 I2)
    exact ⟨n1.ok, w1, w2, w3⟩
end NBW
end
section
/-! The class's Solver: ranks and choices; whether told values hold. -/
section NBX
variable {G : mG} {d s g a R cn cc bc i k n c un x y fd B : Nat} {M M0 M' M1 M2 M3 : mM} {L : List Nat} {W : Nat → Nat}
/-- the choices stand among the commands -/
def Chs (M : mM) (s g n : Nat) : Prop := ∀ k, k < n → ∀ x y : Nat, mI M (g + 4) k = ((x : Nat) : Int) → mI M (g + 4) (k + 1) = ((y : Nat) : Int) → (x = y ∧ mI M (s + 30) k = -1) ∨ (x ≠ y ∧ 0 ≤ mI M (s + 30) k ∧ mI M (s + 30) k < ((y : Nat) : Int) - ((x : Nat) : Int))
/-- what the Solver leaves, its rows as they were -/
def svQ (L : List Nat) (W : Nat → Nat) (s g a R k cn cc bc : Nat) (M0 M : mM) : Prop := NX L W (Tso s M0 R cn) (Cso s M0 R cn) True (s + 1) M0 M ∧ Sva L W s g a R k cn cc bc M ∧ mR M R = mR M0 R ∧ (Rsm M R cn 17 ∧ Rt1 M R cn) ∧ ∀ i, i ≤ 9 → mI M (g + i) = mI M0 (g + i)
theorem atI.sv (hI : atI L W s g a R k cn cc bc M0 M) (h : Sva L W s g a R k cn cc bc M0) (hcn : cn ≤ k) : svQ L W s g a R k cn cc bc M0 M := by
  obtain ⟨q, h1, h2, -, h4, h5⟩ := hI
  exact ⟨q.mono h.2.1.1 (fun _ u => u.elim Or.inl (fun u => Or.inr (Or.inr (Or.inl u)))) (h.tl hcn) (fun x u => u.so) (h.cl hcn) (fun u => u.elim), h1, h2, h4, h5⟩
/-- a table of the Solver's is written -/
theorem svQ.fi {S : Nat → Prop} (hI : svQ L W s g a R k cn cc bc M0 M) (h : Sva L W s g a R k cn cc bc M0) (hcn : cn ≤ k) (f : FI S M M') (o : mOk M') (hS : ∀ x, S x → Stb s x) : svQ L W s g a R k cn cc bc M0 M' := by
  obtain ⟨q, h1, h2, ⟨h4, h4'⟩, h5⟩ := hI
  have hF := h1.2.1.1
  obtain ⟨x, v⟩ := f.nx (T := Tso s M R cn) (r := False) (z := s + 1) o hF (h1.tl hcn) (fun x u => h1.2.2.1 x (hS x u)) h1.z9
  have x' : NX L W (Tso s M R cn) (Cso s M R cn) False (s + 1) M M' := x.mono hF (fun _ u => u) (h1.tl hcn) (fun x u => Or.inr (Or.inl (hS x u))) (h1.cl hcn) (fun u => u)
  obtain ⟨e1, e2, e3⟩ := h1.nx hcn x' (x.sk hF h1.2.1.2.1)
  have x2 : NX L W (Tso s M0 R cn) (Cso s M0 R cn) True (s + 1) M M' := by
    have e : Tso s M R cn = Tso s M0 R cn := by
      funext z
      unfold Tso Trw
      rw [h2]
    have e' : Cso s M R cn = Cso s M0 R cn := by
      funext z
      unfold Cso Irw
      rw [h2]
    rw [e, e'] at x'
    exact x'.mono hF (fun _ u => u) q.2.1.1 (fun _ u => u) x'.2.1.2.1 (fun u => u.elim)
  have rows : ∀ i, i < cn → FrL L M (mR M R i) := fun i hi => h1.2.2.2.2.1.2.2.2.2.2 i (by omega)
  refine ⟨q.trans x2, e1, by rw [e3, h2], ⟨fun i hi => ?_, fun i hi => ?_⟩, fun i hi => by rw [e2 i hi, h5 i hi]⟩
  · rw [e3, v _ (rows i hi).2.1, v _ (rows i hi).2.2]; exact h4 i hi
  · rw [e3, f.2.2.2.2.2.2 _ (fun u => by
      have := hS _ u
      have hb := h1.2.2.2.2.2.1 i (by omega)
      unfold Stb at this
      omega)]
    exact h4' i hi
theorem s_rc119 {Q : mM → Prop} {b4 : Int} (h4 : b4 = 0 ∨ b4 = 1) (h0 : Sva L W s g a R k cn cc bc M0) (hcn : cn ≤ k) (hi : i < cn) (ex : mI M0 (g + 4) i = ((x : Nat) : Int)) (ey : mI M0 (g + 4) (i + 1) = ((y : Nat) : Int)) (xy : x ≤ y ∧ y ≤ cc)
    (hQ : ∀ M', svQ L W s g a R k cn cc bc M0 M' → Chs M' s g (i + 1) → h_So_rankAndChoose_17 G d s ((i : Int) + 1) M' Q) : ∀ (t c : Nat) (fo : Int) (M : mM), y ≤ c + t → x ≤ c → c ≤ y → (fo = 0 ∨ fo = 1) → svQ L W s g a R k cn cc bc M0 M → Chs M s g (i + 1) → h_So_rankAndChoose_119 G d s i x b4 fo c M Q := by
  obtain ⟨hc1, hc2, hc3⟩ := h0.1.2.2.2.2.1
  intro t
  induction t with
  | zero =>
    intro c fo M h1 h2 h3 hf hI hC
    obtain ⟨-, ⟨⟨o, ⟨⟨s0, -⟩, ⟨-, -, -, r3, -⟩, -⟩, ⟨g0, ⟨-, q4, -⟩, gk, ⟨-, m4, -⟩⟩, -, -⟩, -⟩, -, -, gi⟩ := id hI
    refine k_So_rankAndChoose_119 o ⟨by omega, by omega⟩ ⟨by omega, by omega⟩ (m_b32 h4) (m_b32 hf) ⟨by omega, by omega⟩ ?_
    rw [r3, q4, m4, show Int.toNat ((i : Int) + 1) = i + 1 by omega, gi 4 (by decide), ey]
    exact ⟨s0, g0, gk 4 (by decide) (by decide), ⟨by omega, by omega⟩, fun _ => hQ M hI hC, fun u => absurd (Or.inl (by omega)) u⟩
  | succ t ih =>
    intro c fo M h1 h2 h3 hf hI hC
    obtain ⟨-, hS, -, -, gi⟩ := id hI
    obtain ⟨⟨o, ⟨⟨s0, -⟩, ⟨-, r1, r2, r3, -, -, -, -, -, -, r11, -⟩, ⟨k1, k2, -, -, -, -, -, k11, -⟩, ⟨n1, n2, -, -, -, -, -, n11, -⟩⟩, ⟨g0, ⟨-, q4, -⟩, gk, ⟨-, m4, -⟩⟩, -, -⟩, -⟩ := id hS
    have e1 := gi 4 (by decide)
    refine k_So_rankAndChoose_119 o ⟨by omega, by omega⟩ ⟨by omega, by omega⟩ (m_b32 h4) (m_b32 hf) ⟨by omega, by omega⟩ ?_
    rw [r3, q4, m4, show Int.toNat ((i : Int) + 1) = i + 1 by omega, e1, ey, r11, n11, r1, n1, Int.toNat_natCast, Int.toNat_natCast]
    refine ⟨s0, g0, gk 4 (by decide) (by decide), ⟨by omega, by omega⟩, fun _ => hQ M hI hC, fun u => ?_⟩
    have cy : c < y := by
      by_cases cc' : ((y : Nat) : Int) ≤ c
      · exact absurd (Or.inl cc') u
      · omega
    have s179 : ∀ (k0 : Int), (k0 = 0 ∨ k0 = 1) → h_So_rankAndChoose_179 G d s i x b4 c k0 M Q := fun k0 hk0 => by
      refine k_So_rankAndChoose_179 o ⟨by omega, by omega⟩ ⟨by omega, by omega⟩ (m_b32 h4) ⟨by omega, by omega⟩ (m_b32 hk0) ?_
      rw [r2, n2, Int.toNat_natCast, show ((c : Int) + 1) = ((c + 1 : Nat) : Int) by omega]
      refine ⟨s0, k2, ⟨by omega, by omega⟩, ⟨by omega, by omega⟩, fun M91 e91 => ?_⟩
      have f91 : FI (fun z => z = s + 30) M M91 := by rw [e91]; exact FI.ui rfl
      have o91 : mOk M91 := by rw [e91]; exact mOk_UI o ⟨by omega, by omega⟩
      have I2 := hI.fi h0 hcn f91 o91 (fun z u => by rw [u]; exact Or.inr (Or.inr (Or.inl rfl)))
      refine ih (c + 1) k0 M91 (by omega) (by omega) (by omega) hk0 I2 (fun j hj x' y' f1 f2 => ?_)
      rw [I2.2.2.2.2 4 (by decide)] at f1 f2
      rw [mI_ui _ j e91]
      by_cases cj : j = i
      · rw [if_pos ⟨rfl, cj⟩]
        rw [cj] at f1 f2
        exact Or.inr ⟨by omega, by omega, by omega⟩
      · rw [if_neg (fun u => cj u.2)]
        exact hC j hj x' y' (by rw [e1]; exact f1) (by rw [e1]; exact f2)
    refine ⟨k11, ⟨by omega, by omega⟩, fun _ => s179 0 (Or.inl rfl), fun _ => ⟨fun _ => s179 1 (Or.inr rfl), fun _ => ⟨k1, ⟨by omega, by omega⟩, (s_So_leadsBelow (d := d) (o _ _).1 hS.1 ⟨k1, n1⟩ (show c < cc by omega)).mono (fun x81 M80 q => ?_)⟩⟩⟩
    rw [q.1]
    exact ⟨m_b32 q.2, o, fun _ => s179 0 (Or.inl rfl), fun _ => s179 1 (Or.inr rfl)⟩
theorem s_So_rankAndChoose (h0 : Sva L W s g a R k cn cc bc M) (hcn : cn ≤ k) (hk : k ≤ 512) (hr : Rsm M R cn 17 ∧ Rt1 M R cn) (hW : ∀ x, Tat s x → B ≤ W x) (b1 : 300 ≤ B) (hB : B ≤ 16000) : Cv G y_So_rankAndChoose (d + 7) [vr s, vr a] M (fun M' => svQ L W s g a R k cn cc bc M M' ∧ Chs M' s g cn) := by
  obtain ⟨hc1, hc2, hc3⟩ := h0.1.2.2.2.2.1
  refine k_So_rankAndChoose h0.1.1 ⟨h0.1.2.1.1.1, (s_So_attain (d := d) h0 hcn hk hr hW b1 hB).mono (fun x3 M2 q => ?_)⟩
  obtain ⟨x01, hI2⟩ := q
  have V2 := hI2.sv h0 hcn
  have S2 := hI2.2.1
  have r1 : mR M2 s 1 = s + 29 := S2.1.2.1.2.1.2.1
  rw [r1]
  refine ⟨m_b32 x01, S2.1.1, S2.1.2.1.1.1, (s_So_fillRanks (d := d + 3) S2 hcn hk (Or.inl rfl)).mono (fun M6 q => ?_)⟩
  obtain ⟨o6, f6, S6⟩ := q
  have V6 := V2.fi h0 hcn f6 o6 (fun z u => by rw [u]; exact Or.inr (Or.inl rfl))
  refine ⟨o6, ?_⟩
  suffices HH : ∀ (t i : Nat) (M1 : mM), cn ≤ i + t → i ≤ cn → svQ L W s g a R k cn cc bc M M1 → Chs M1 s g i → h_So_rankAndChoose_17 G (d + 6) s i M1 (fun M' => svQ L W s g a R k cn cc bc M M' ∧ Chs M' s g cn) from HH cn 0 M6 (by omega) (by omega) V6 (fun j hj => absurd hj (by omega))
  intro t
  induction t with
  | zero =>
    intro i M1 h1 h2 hI hC
    have ei : i = cn := by omega
    subst ei
    obtain ⟨-, ⟨⟨o, ⟨⟨s0, -⟩, ⟨-, -, -, r3, -⟩, -⟩, ⟨g0, -⟩, -, hT⟩, -⟩, -⟩ := id hI
    refine k_So_rankAndChoose_17 o ⟨by omega, by omega⟩ ?_
    rw [r3, hT.2.2.2]
    exact ⟨s0, g0, fun _ => ⟨hI, hC⟩, fun u => absurd (by omega) u⟩
  | succ t ih =>
    intro i M1 h1 h2 hI hC
    by_cases ei : i = cn
    · exact ih i M1 (by omega) h2 hI hC
    have hi : i < cn := by omega
    obtain ⟨-, hS, -, -, gi⟩ := id hI
    obtain ⟨⟨o, ⟨⟨s0, -⟩, ⟨-, r1, r2, r3, -⟩, ⟨k1, k2, -⟩, ⟨n1, n2, -⟩⟩, ⟨g0, ⟨q2, q4, -⟩, gk, ⟨m2, m4, -⟩⟩, -, hT⟩, -⟩ := id hS
    obtain ⟨x, y, x1, y1, xy, yc⟩ := hT.2.2.1 i hi
    have e4 := gi 4 (by decide)
    have x1' : mI M (g + 4) i = ((x : Nat) : Int) := by rw [← e4]; exact x1
    have y1' : mI M (g + 4) (i + 1) = ((y : Nat) : Int) := by rw [← e4]; exact y1
    refine k_So_rankAndChoose_17 o ⟨by omega, by omega⟩ ?_
    rw [r3, hT.2.2.2, q4, m4, r2, n2, Int.toNat_natCast, show Int.toNat ((i : Int) + 1) = i + 1 by omega, x1, y1]
    refine ⟨s0, g0, fun u => absurd u (by omega), fun _ => ⟨gk 4 (by decide) (by decide), ⟨by omega, by omega⟩, ⟨by omega, by omega⟩, fun v20 e20 => ⟨k2, ⟨by omega, by omega⟩, fun M26 e26 => ?_⟩⟩⟩
    have i20 : i32 v20 := by rw [e20]; split <;> exact ⟨by decide, by decide⟩
    have f26 : FI (fun z => z = s + 30) M1 M26 := by rw [e26]; exact FI.ui rfl
    have o26 : mOk M26 := by rw [e26]; exact mOk_UI o i20
    have I26 := hI.fi h0 hcn f26 o26 (fun z u => by rw [u]; exact Or.inr (Or.inr (Or.inl rfl)))
    rw [f26.1, f26.2.1, f26.2.2.1, r3, q2, m2, r2, n2, r1, n1]
    refine ⟨g0, gk 2 (by decide) (by decide), ⟨by omega, by omega⟩, fun v32 e32 => ⟨k2, ⟨by omega, by omega⟩, fun _ _ => ⟨k1, ⟨by omega, by omega⟩⟩, fun v44 e44 => ?_⟩⟩
    have b32 : v32 = 0 ∨ v32 = 1 := by rw [e32]; split <;> omega
    have b44 : v44 = 0 ∨ v44 = 1 := by rw [e44]; split <;> omega
    refine s_rc119 b32 h0 hcn hi x1' y1' ⟨xy, yc.1⟩ (fun M' hI' hC' => ?_) (y - x) x v44 M26 (by omega) (Nat.le_refl _) (by omega) b44 I26 (fun j hj x' y' f1 f2 => ?_)
    · rw [show ((i : Int) + 1) = ((i + 1 : Nat) : Int) by omega]
      exact ih (i + 1) M' (by omega) (by omega) hI' hC'
    · rw [I26.2.2.2.2 4 (by decide)] at f1 f2
      rw [mI_ui _ j e26]
      by_cases cj : j = i
      · rw [if_pos ⟨rfl, cj⟩]
        rw [cj] at f1 f2
        by_cases ce : x = y
        · rw [if_pos (by omega)] at e20
          exact Or.inl ⟨by omega, e20⟩
        · rw [if_neg (by omega)] at e20
          exact Or.inr ⟨by omega, by omega, by omega⟩
      · rw [if_neg (fun u => cj u.2)]
        exact hC j (by omega) x' y' (by rw [e4]; exact f1) (by rw [e4]; exact f2)
/-- whether values are what they must be -/
theorem s_So_holds (h0 : Sva L W s g a R k cn cc bc M) (hcn : cn ≤ k) (hk : k ≤ 512) (hr : Rsm M R cn 17 ∧ Rt1 M R cn) (hW : ∀ x, Tat s x → B ≤ W x) (b1 : 300 ≤ B) (hB : B ≤ 16000) : Ci G y_So_holds (d + 7) [vr s, vr a] M (fun x M' => (x = 0 ∨ x = 1) ∧ svQ L W s g a R k cn cc bc M M' ∧ mI M' (s + 30) = mI M (s + 30)) := by
  obtain ⟨hc1, hc2, hc3⟩ := h0.1.2.2.2.2.1
  refine k_So_holds h0.1.1 ⟨h0.1.2.1.1.1, (s_So_attain (d := d) h0 hcn hk hr hW b1 hB).mono (fun x3 M2 q => ?_)⟩
  obtain ⟨x01, hI2⟩ := q
  have V2 := hI2.sv h0 hcn
  have S2 := hI2.2.1
  have r12 : mR M2 s 16 = s + 129 := S2.1.2.1.2.1.2.2.2.2.2.2.2.2.2.2.2.1
  rw [r12]
  refine ⟨m_b32 x01, S2.1.1, S2.1.2.1.1.1, (s_So_fillRanks (d := d + 3) S2 hcn hk (Or.inr rfl)).mono (fun M6 q => ?_)⟩
  obtain ⟨o6, f6, S6⟩ := q
  have V6 := V2.fi h0 hcn f6 o6 (fun z u => by rw [u]; exact Or.inr (Or.inr (Or.inr (Or.inr (Or.inr (Or.inr (Or.inr (Or.inr (Or.inr rfl)))))))))
  refine ⟨o6, ?_⟩
  obtain ⟨⟨o, ⟨⟨s0, -⟩, ⟨-, r1, -, r3, -, -, -, -, -, -, -, r12', -⟩, ⟨k1, -, -, -, -, -, -, -, k12⟩, ⟨n1, -, -, -, -, -, -, -, n12⟩⟩, ⟨g0, -⟩, -, hT⟩, ⟨hF, -⟩, -, -, ⟨t1, t2, t3, t4, -, t7⟩, -, -⟩ := id V6.2.1
  have e30 : mI M6 (s + 30) = mI M (s + 30) := by rw [f6.2.2.2.2.2.2 (s + 30) (show ¬ s + 30 = s + 129 by omega), hI2.2.2.2.1 (s + 30) (Or.inr (Or.inr (Or.inl rfl))) (by omega)]
  suffices HH : ∀ (t i : Nat) (l2 : Int), cn ≤ i + t → i ≤ cn → (l2 = 0 ∨ l2 = 1) → h_So_holds_17 G (d + 6) s a l2 i M6 (fun x M' => (x = 0 ∨ x = 1) ∧ svQ L W s g a R k cn cc bc M M' ∧ mI M' (s + 30) = mI M (s + 30)) from HH cn 0 x3 (by omega) (by omega) x01
  intro t
  induction t with
  | zero =>
    intro i l2 h1 h2 hl
    refine k_So_holds_17 o (m_b32 hl) ⟨by omega, by omega⟩ ?_
    rw [r3, hT.2.2.2]
    exact ⟨s0, g0, fun _ => ⟨hl, hl, V6, e30⟩, fun u => absurd (by omega) u⟩
  | succ t ih =>
    intro i l2 h1 h2 hl
    by_cases ei : i = cn
    · exact ih i l2 (by omega) h2 hl
    have fr := t7 i (by omega)
    refine k_So_holds_17 o (m_b32 hl) ⟨by omega, by omega⟩ ?_
    rw [r3, hT.2.2.2, t2, t4, r12', n12, r1, n1, Int.toNat_natCast, fr.1.2.1.1, show ((i : Int) + 1) = ((i + 1 : Nat) : Int) by omega]
    refine ⟨s0, g0, fun u => absurd u (by omega), fun _ => ⟨t1, t3, ⟨by omega, by omega⟩, fr.1.1, hF.kd fr.2.1, fun _ => ⟨k12, ⟨by omega, by omega⟩⟩, fun v33 e33 => ⟨fun _ => ⟨k12, ⟨by omega, by omega⟩, k1, ⟨by omega, by omega⟩⟩, fun v44 e44 => ?_⟩⟩⟩
    exact ih (i + 1) _ (by omega) (by omega) (and01 hl (by rw [e44]; split <;> omega))
end NBX
end
