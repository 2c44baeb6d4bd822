/-! The class's Solver: one frame for all its steps. -/
section NBQ
variable {G : mG} {d s g z e a R cn cc bc i k n c lo hi un x f : Nat} {M M0 M' M1 M2 M3 : mM} {L : List Nat} {W : Nat → Nat} {T T' I C C' S : Nat → Prop} {r r' : Prop}
/-- numbers of T, ints of the cells of C, the Scales' longs, and (where r) its own references -/
def NX (L : List Nat) (W : Nat → Nat) (T C : Nat → Prop) (r : Prop) (z : Nat) (M M' : mM) : Prop := (mOk M' ∧ NF L W M') ∧ ((∀ t, T t → t ∈ L) ∧ (∀ x, C x → Oc L M x) ∧ (z < mZ M ∧ mK M z = 9)) ∧ FD (fun x => nsS M T x ∨ C x) (fun x => T x ∨ (x = z ∧ r)) (fun x => x = z + 13 ∨ x + 1 = z) M M' ∧ (∀ t, T t → mR M' t 0 = mR M t 0 ∨ mZ M ≤ mR M' t 0) ∧ RmN L M M'
theorem NX.ok (h : NX L W T C r z M M') : mOk M' := h.1.1
theorem NX.nf (h : NX L W T C r z M M') : NF L W M' := h.1.2
theorem NX.kind (h : NX L W T C r z M M') (hx : x < mZ M) : mK M' x = mK M x := (h.2.2.1.2 x hx).1
theorem NX.num {b : Nat} (h : NX L W T C r z M M') (hF : NF L W M) (hb : b ∈ L) (hT : ¬ T b) : mR M' b = mR M b ∧ sz M' b = sz M b ∧ nv M' b = nv M b := by
  obtain ⟨-, ⟨h2, hC, hz⟩, h3, h4, -⟩ := h
  obtain ⟨z1, z2⟩ := hF.lt hb
  have n1 : ¬ (nsS M T b ∨ C b) := by
    rintro ((u | ⟨t, ht, u⟩) | u)
    · exact hT u
    · exact hF.na hb (h2 t ht) u
    · exact (hC b u).2.1 hb
  have n2 : ¬ (nsS M T (mR M b 0) ∨ C (mR M b 0)) := by
    rintro ((u | ⟨t, ht, u⟩) | u)
    · exact hF.na (h2 _ u) hb rfl
    · exact hT (by rw [hF.2.2 b t hb (h2 t ht) u]; exact ht)
    · exact (hC _ u).2.2 b hb rfl
  have a1 := (h3.2 b z1).2.2.2.1 (fun u => u.elim hT (fun u => (hF.nz hz.2 hb).1 u.1))
  have a2 := (h3.2 b z1).2.2.2.2 n1
  have a3 := (h3.2 _ z2).2.2.2.2 n2
  have a4 : sz M' b = sz M b := by unfold sz; rw [a2]
  exact ⟨a1, a4, by unfold nv; rw [a4, a1, a3]⟩
theorem NX.oc (h : NX L W T C r z M M') (hF : NF L W M) (hx : Oc L M x) : Oc L M' x := by
  refine ⟨Nat.lt_of_lt_of_le hx.1 h.2.2.1.1.1, hx.2.1, fun a ha u => ?_⟩
  by_cases c : T a
  · rcases h.2.2.2.1 a c with q | q
    · exact hx.2.2 a ha (by rw [← q]; exact u)
    · have := hx.1
      omega
  · rw [(h.num hF ha c).1] at u
    exact hx.2.2 a ha u
theorem NX.oth (h : NX L W T C r z M M') (hx : Oc L M x) (hz : x ≠ z) : mK M' x = mK M x ∧ mN M' x = mN M x ∧ mR M' x = mR M x ∧ (¬ C x → mI M' x = mI M x) := by
  obtain ⟨-, ⟨h2, -, -⟩, h3, -, -⟩ := h
  obtain ⟨a1, a2, a3, a4, a5⟩ := h3.2 x hx.1
  refine ⟨a1, a2, a4 (fun u => u.elim (fun u => hx.2.1 (h2 x u)) (fun u => hz u.1)), fun ni => a5 ?_⟩
  rintro ((u | ⟨t, ht, u⟩) | u)
  · exact hx.2.1 (h2 x u)
  · exact hx.2.2 t (h2 t ht) u.symm
  · exact ni u
theorem NX.trans (h : NX L W T C r z M M1) (k : NX L W T C r z M1 M2) : NX L W T C r z M M2 := by
  obtain ⟨-, h2, h3, h4, h5⟩ := h
  obtain ⟨k1, -, k3, k4, k5⟩ := k
  refine ⟨k1, h2, h3.trans2 k3 ?_ (fun _ _ y => y) (fun _ _ y => y), fun t ht => ?_, h5.trans k5⟩
  · intro x hx u
    rcases u with (u | ⟨t, ht, u⟩) | u
    · exact Or.inl (Or.inl u)
    · rcases h4 t ht with q | q
      · exact Or.inl (Or.inr ⟨t, ht, by rw [u, q]⟩)
      · omega
    · exact Or.inr u
  · rcases k4 t ht with q | q
    · rw [q]; exact h4 t ht
    · exact Or.inr (Nat.le_trans h3.1.1 q)
theorem NX.mono (h : NX L W T C r z M M1) (hr : NF L W M) (hT : ∀ t, T t → T' t) (hL : ∀ t, T' t → t ∈ L) (hC : ∀ x, C x → C' x) (hC' : ∀ x, C' x → Oc L M x) (rr : r → r') : NX L W T' C' r' z M M1 := by
  obtain ⟨h1, ⟨-, -, hz⟩, h3, h4, h5⟩ := h
  refine ⟨h1, ⟨hL, hC', hz⟩, h3.mono (fun x _ u => ?_) (fun x _ u => u.elim (fun u => Or.inl (hT x u)) (fun u => Or.inr ⟨u.1, rr u.2⟩)) (fun _ _ u => u), fun t ht => ?_, h5⟩
  · rcases u with (u | ⟨t, ht, u⟩) | u
    · exact Or.inl (Or.inl (hT x u))
    · exact Or.inl (Or.inr ⟨t, hT t ht, u⟩)
    · exact Or.inr (hC x u)
  · by_cases c : T t
    · exact h4 t c
    · refine Or.inl ?_
      rw [(h3.2 t (hr.lt (hL t ht)).1).2.2.2.1 (fun u => u.elim c (fun u => (hr.nz hz.2 (hL t ht)).1 u.1))]
theorem NX.refl (hO : mOk M) (h : NF L W M) (hT : ∀ t, T t → t ∈ L) (hC : ∀ x, C x → Oc L M x) (hz : z < mZ M ∧ mK M z = 9) : NX L W T C r z M M := ⟨⟨hO, h⟩, ⟨hT, hC, hz⟩, FD.refl, fun _ _ => Or.inl rfl, RmN.refl⟩
/-- a fraction's cell is another cell -/
theorem NF.ocf (hF : NF L W M) (hx : x < mZ M) (hk : mK M x = 11) : Oc L M x := ⟨hx, fun u => (hF.nI hk u).1 rfl, fun a ha => (hF.nI hk ha).2⟩
theorem NL.nx (h : NL L W T I r z M M') (hF : NF L W M) : NX L W T I r z M M' := by
  obtain ⟨h1, ⟨h2, hI, hz⟩, h3, h4, h5⟩ := h
  exact ⟨h1, ⟨h2, fun x u => hF.ocf (hI x u).1 (hI x u).2, hz⟩, h3.mono (fun _ _ u => u) (fun _ _ u => u) (fun _ _ u => Or.inl u), h4, h5⟩
theorem NR.nx (h : NR L W e M M') (hK : RsK L M e) (hz : z < mZ M ∧ mK M z = 9) : NX L W (Trs e) (S36 e) False z M M' := by
  obtain ⟨h1, h3, h4, h5⟩ := h
  exact ⟨h1, ⟨hK.tl, hK.s36, hz⟩, (h3.fd (D := fun x => x = z + 13 ∨ x + 1 = z)).mono (fun _ _ u => u) (fun _ _ u => Or.inl u) (fun _ _ u => u), h4, h5⟩
theorem NC.nx (h : NC L W T M M') (hC : ∀ x, C x → Oc L M x) (hz : z < mZ M ∧ mK M z = 9) : NX L W T C r z M M' := by
  obtain ⟨h1, h2, h3, h4, h5⟩ := h
  exact ⟨h1, ⟨h2, hC, hz⟩, (h3.fd (D := fun x => x = z + 13 ∨ x + 1 = z)).mono (fun _ _ u => Or.inl u) (fun _ _ u => Or.inl u) (fun _ _ u => u), h4, h5⟩
/-- ints of other cells change -/
theorem FI.nx (f : FI C M M') (o : mOk M') (hF : NF L W M) (hT : ∀ t, T t → t ∈ L) (hC : ∀ x, C x → Oc L M x) (hz : z < mZ M ∧ mK M z = 9) : NX L W T C r z M M' ∧ ∀ a, a ∈ L → nv M' a = nv M a := by
  have nt' : ∀ a, a ∈ L → Nt M' a (mR M a 0) (cp M a) (sz M a) := fun a ha => (hF.nt ha).fi f (fun u => (hC a u).2.1 ha) (fun u => (hC _ u).2.2 a ha rfl)
  have cc : ∀ a, cp M' a = cp M a := fun a => by unfold cp; rw [f.2.2.1, f.2.1]
  have nf : NF L W M' := ⟨hF.1, fun a ha => ⟨(nt' a ha).nn, by rw [cc]; exact (hF.2.1 a ha).2.1, (hF.2.1 a ha).2.2⟩, fun a b ha hb u => hF.2.2 a b ha hb (by rw [← f.2.2.1]; exact u)⟩
  refine ⟨⟨⟨o, nf⟩, ⟨hT, hC, hz⟩, ((f.fa (R := fun _ => False)).fd (D := fun x => x = z + 13 ∨ x + 1 = z)).mono (fun _ _ u => Or.inr u) (fun _ _ u => u.elim) (fun _ _ u => u), fun t _ => Or.inl (by rw [f.2.2.1]), ?_⟩, fun a ha => ?_⟩
  · unfold RmN
    rw [show cp M' = cp M from funext cc, f.2.2.2.2.1, f.2.2.2.2.2.1]
    exact ⟨Nat.le_refl _, Nat.le_refl _⟩
  · rw [(nt' a ha).nv]
    unfold nv
    rw [f.2.2.2.2.2.2 _ (fun u => (hC _ u).2.2 a ha rfl)]
/-- the Solver's own int tables -/
def Stb (s x : Nat) : Prop := x = s ∨ x = s + 29 ∨ x = s + 30 ∨ x = s + 122 ∨ x = s + 123 ∨ x = s + 124 ∨ x = s + 125 ∨ x = s + 126 ∨ x = s + 128 ∨ x = s + 129
/-- all that the Solver may change, with the rows of a table -/
def Tso (s : Nat) (M : mM) (R n x : Nat) : Prop := Tpk (s + 1) x ∨ Trs (s + 31) x ∨ T2 (s + 130) x ∨ Trw M R n x
def Cso (s : Nat) (M : mM) (R n x : Nat) : Prop := Ipk (s + 1) x ∨ Stb s x ∨ S36 (s + 31) x ∨ x = s + 32 ∨ x = s + 130 ∨ Irw M R n x
/-- the Solver with a table of k rows, a game of cn states -/
def Sva (L : List Nat) (W : Nat → Nat) (s g a R k cn cc bc : Nat) (M : mM) : Prop := SG M s g cn cc bc ∧ (NF L W M ∧ SK L M (s + 1) ∧ RsK L M (s + 31) ∧ FrL L M (s + 130)) ∧ (∀ x, Stb s x → Oc L M x) ∧ (∀ i, i ≤ 9 → Oc L M (g + i)) ∧ RwT L M a R k ∧ (∀ i, i < k → s + 134 < mR M R i) ∧ RwD M R k
theorem Sva.te (h : Sva L W s g a R k cn cc bc M) : Te L W (s + 1) g a R k M := by
  obtain ⟨h1, ⟨h2, h3, h4, h5⟩, h6, h7, h8, h9, h10⟩ := h
  refine ⟨⟨h1.1, h2, h3⟩, ⟨h1.2.2.1, h7⟩, h8, fun i hi => ?_, h10⟩
  have := h9 i hi
  unfold Rap Tpk T4 Tor T2
  omega
theorem Sva.tl (h : Sva L W s g a R k cn cc bc M) (hn : n ≤ k) : ∀ t, Tso s M R n t → t ∈ L := fun t ht => by
  rcases ht with u | u | u | u
  · exact h.2.1.2.1.tpk t u
  · exact h.2.1.2.2.1.tl t u
  · exact h.2.1.2.2.2.t2 t u
  · exact h.te.trw hn t u
theorem Sva.cl (h : Sva L W s g a R k cn cc bc M) (hn : n ≤ k) : ∀ x, Cso s M R n x → Oc L M x := fun x hx => by
  obtain ⟨-, ⟨h2, h3, h4, h5⟩, h6, -⟩ := id h
  rcases hx with u | u | u | u | u | u
  · exact h2.ocf (h3.ipk x u).1 (h3.ipk x u).2
  · exact h6 x u
  · exact h4.s36 x u
  · rw [u]; exact h4.2.1 1 (by decide)
  · rw [u]; exact h2.ocf h5.1.2.2 h5.1.1
  · exact h2.ocf (h.te.irw hn x u).1 (h.te.irw hn x u).2
theorem Sva.z9 (h : Sva L W s g a R k cn cc bc M) : s + 1 < mZ M ∧ mK M (s + 1) = 9 := h.2.1.2.1.z9
end NBQ
