/-! The class's natural numbers as a family: L their places, W how many limbs each may want. -/
section NAK
variable {G : mG} {d a b c Y Cy s n m X Cx w : Nat} {M M' M1 M2 M3 : mM} {v : Int} {L : List Nat} {W : Nat → Nat} {T T' : Nat → Prop}
def Nn (M : mM) (a : Nat) : Prop := ∃ s, Nt M a (mR M a 0) (cp M a) s
/-- how many limbs -/
def sz (M : mM) (a : Nat) : Nat := Int.toNat (mI M a 1)
/-- its value -/
def nv (M : mM) (a : Nat) : Int := dn (mI M (mR M a 0)) (sz M a)
def NF (L : List Nat) (W : Nat → Nat) (M : mM) : Prop := L.Nodup ∧ (∀ a, a ∈ L → Nn M a ∧ cp M a ≤ 2 * W a ∧ (2 ≤ W a ∧ W a ≤ 20000)) ∧ (∀ a b, a ∈ L → b ∈ L → mR M a 0 = mR M b 0 → a = b)
/-- the cells of the numbers of T -/
def nsS (M : mM) (T : Nat → Prop) (x : Nat) : Prop := T x ∨ ∃ t, T t ∧ x = mR M t 0
def RmN (L : List Nat) (M M' : mM) : Prop := mS M' + 2 * psum (cp M) L ≤ mS M + 2 * psum (cp M') L ∧ mZ M' + psum (fun p => cp M p / 4) L ≤ mZ M + psum (fun p => cp M' p / 4) L
/-- the numbers of T have changed -/
def NC (L : List Nat) (W : Nat → Nat) (T : Nat → Prop) (M M' : mM) : Prop := (mOk M' ∧ NF L W M') ∧ (∀ t, T t → t ∈ L) ∧ FA (nsS M T) T M M' ∧ (∀ t, T t → mR M' t 0 = mR M t 0 ∨ mZ M ≤ mR M' t 0) ∧ RmN L M M'
theorem Nt.sz (h : Nt M a Y Cy s) : sz M a = s := by unfold Jvm.Pilot.CChanceArenaLaw_law_r5724_e151ce.sz; rw [h.2.1, Int.toNat_natCast]
theorem Nt.cp (h : Nt M a Y Cy s) : cp M a = Cy := by unfold Jvm.Pilot.CChanceArenaLaw_law_r5724_e151ce.cp; rw [h.1.2.1, h.1.2.2.2.1]
theorem Nt.nn (h : Nt M a Y Cy s) : Nn M a := ⟨s, by rw [h.cp, h.1.2.1]; exact h⟩
theorem Nt.nv (h : Nt M a Y Cy s) : nv M a = dn (mI M Y) s := by unfold Jvm.Pilot.CChanceArenaLaw_law_r5724_e151ce.nv; rw [h.sz, h.1.2.1]
theorem NF.nt (h : NF L W M) (ha : a ∈ L) : Nt M a (mR M a 0) (cp M a) (sz M a) := by
  obtain ⟨s, t⟩ := (h.2.1 a ha).1
  have e := t.sz
  rw [e]
  exact t
theorem NF.cb (h : NF L W M) (ha : a ∈ L) : cp M a ≤ 40000 := by have := h.2.1 a ha; omega
theorem NF.sc (h : NF L W M) (ha : a ∈ L) : sz M a ≤ cp M a := (h.nt ha).2.2.1
theorem NF.ne (h : NF L W M) (ha : a ∈ L) (hb : b ∈ L) (ab : a ≠ b) : mR M a 0 ≠ mR M b 0 := fun u => ab (h.2.2 a b ha hb u)
theorem NF.lt (h : NF L W M) (ha : a ∈ L) : a < mZ M ∧ mR M a 0 < mZ M := (h.nt ha).1.2.2.2.2.2.2
theorem NF.kd (h : NF L W M) (ha : a ∈ L) : mK M a = 10 := (h.nt ha).1.1
theorem NF.ka (h : NF L W M) (ha : a ∈ L) : mK M (mR M a 0) = 30 := (h.nt ha).1.2.2.1
/-- a number is no other's limbs -/
theorem NF.na (h : NF L W M) (ha : a ∈ L) (hb : b ∈ L) : a ≠ mR M b 0 := fun u => by
  have h1 := h.kd ha
  have h2 := h.ka hb
  rw [u, h2] at h1
  omega
theorem NF.nn0 (h : NF L W M) (ha : a ∈ L) : 0 ≤ nv M a := dn_nn (h.nt ha).2.2.2.1
theorem NF.vlt (h : NF L W M) (ha : a ∈ L) : nv M a < 2 ^ (30 * sz M a) := dn_lt (h.nt ha).2.2.2.1
/-- few limbs by a small value -/
theorem NF.szv (h : NF L W M) (ha : a ∈ L) (hv : nv M a < 2 ^ (30 * n)) : sz M a ≤ n := dn_sz (h.nt ha).2.2.2.1 (h.nt ha).2.2.2.2 hv
theorem NF.sz0 (h : NF L W M) (ha : a ∈ L) : sz M a = 0 ↔ nv M a = 0 := by
  constructor
  · intro u
    unfold nv
    rw [u]
    rfl
  · intro u
    have := h.szv (n := 0) ha (by rw [u]; decide)
    omega
theorem NF.sw (h : NF L W M) (ha : a ∈ L) : 2 ≤ W a ∧ W a ≤ 20000 := (h.2.1 a ha).2.2
theorem RmN.refl : RmN L M M := ⟨Nat.le_refl _, Nat.le_refl _⟩
theorem RmN.trans (h : RmN L M M1) (k : RmN L M1 M2) : RmN L M M2 := by
  obtain ⟨h1, h2⟩ := h
  obtain ⟨k1, k2⟩ := k
  exact ⟨by omega, by omega⟩
theorem NC.refl (hO : mOk M) (h : NF L W M) (hT : ∀ t, T t → t ∈ L) : NC L W T M M := ⟨⟨hO, h⟩, hT, FA.refl, fun _ _ => Or.inl rfl, RmN.refl⟩
theorem NC.trans (h : NC L W T M M1) (k : NC L W T M1 M2) : NC L W T M M2 := by
  obtain ⟨-, h2, h3, h4, h5⟩ := h
  obtain ⟨k1, -, k3, k4, k5⟩ := k
  refine ⟨k1, h2, h3.trans2 k3 ?_ (fun _ _ y => y), fun t ht => ?_, h5.trans k5⟩
  · intro x hx u
    rcases u with u | ⟨t, ht, u⟩
    · exact Or.inl u
    · rcases h4 t ht with q | q
      · exact Or.inr ⟨t, ht, by rw [u, q]⟩
      · omega
  · rcases k4 t ht with q | q
    · rw [q]; exact h4 t ht
    · exact Or.inr (Nat.le_trans h3.1.1 q)
theorem NC.mono (h : NC L W T M M1) (hT : ∀ t, T t → T' t) (hL : ∀ t, T' t → t ∈ L) (hr : NF L W M) : NC L W T' M M1 := by
  obtain ⟨h1, h2, h3, h4, h5⟩ := h
  refine ⟨h1, hL, h3.mono (fun x _ u => ?_) (fun x _ u => hT x u), fun t ht => ?_, h5⟩
  · rcases u with u | ⟨t, ht, u⟩
    · exact Or.inl (hT x u)
    · exact Or.inr ⟨t, hT t ht, u⟩
  · by_cases c : T t
    · exact h4 t c
    · refine Or.inl ?_
      rw [(h3.2 t (hr.lt (hL t ht)).1).2.2.2.1 c]
/-- what is not of T stays -/
theorem NC.num (h : NC L W T M M') (hF : NF L W M) (hb : b ∈ L) (hT : ¬ T b) : mR M' b = mR M b ∧ mI M' b = mI M b ∧ mI M' (mR M b 0) = mI M (mR M b 0) ∧ sz M' b = sz M b ∧ nv M' b = nv M b ∧ cp M' b = cp M b := by
  obtain ⟨-, h2, h3, h4, -⟩ := h
  obtain ⟨z1, z2⟩ := hF.lt hb
  have n1 : ¬ nsS M T b := by
    rintro (u | ⟨t, ht, u⟩)
    · exact hT u
    · exact hF.na hb (h2 t ht) u
  have n2 : ¬ nsS M T (mR M b 0) := by
    rintro (u | ⟨t, ht, u⟩)
    · exact hF.na (h2 _ u) hb rfl
    · exact hT (by rw [hF.2.2 b t hb (h2 t ht) u]; exact ht)
  have a1 := (h3.2 b z1).2.2.2.1 hT
  have a2 := (h3.2 b z1).2.2.2.2 n1
  have a3 := (h3.2 _ z2).2.2.2.2 n2
  have a4 : sz M' b = sz M b := by unfold sz; rw [a2]
  refine ⟨a1, a2, a3, a4, ?_, ?_⟩
  · unfold nv
    rw [a4, a1, a3]
  · unfold cp
    rw [a1, (h3.2 _ z2).2.1]
theorem NC.nf (h : NC L W T M M') : NF L W M' := h.1.2
theorem NC.ok (h : NC L W T M M') : mOk M' := h.1.1
/-- one number's step -/
theorem NF.step (hF : NF L W M) (ha : a ∈ L) (hw : w ≤ W a) (h : nst M a (mR M a 0) (cp M a) w v M') : NC L W (fun x => x = a) M M' ∧ nv M' a = v := by
  obtain ⟨o, Y', C', s', t, e, F, g⟩ := h
  have W1 := hF.2.1 a ha
  have z := hF.lt ha
  have C4 : 4 ≤ cp M a := (hF.nt ha).1.2.2.2.2.1.1
  have F' : FA (nsS M (fun x => x = a)) (fun x => x = a) M M' := F.mono (fun x _ u => by
    rcases u with u | u
    · exact Or.inl u
    · exact Or.inr ⟨a, rfl, u⟩) (fun _ _ u => u)
  have ra : mR M' a 0 = Y' := t.1.2.1
  have ca : cp M' a = C' := t.cp
  have old : ∀ b, b ∈ L → b ≠ a → mR M' b 0 = mR M b 0 ∧ cp M' b = cp M b ∧ ∃ s, Nt M' b (mR M b 0) (cp M b) s := by
    intro b hb ba
    have zb := hF.lt hb
    have rb : mR M' b 0 = mR M b 0 := by rw [(F.2 b zb.1).2.2.2.1 ba]
    have n1 : ¬ (b = a ∨ b = mR M a 0) := by
      rintro (u | u)
      · exact ba u
      · exact hF.na hb ha u
    have n2 : ¬ (mR M b 0 = a ∨ mR M b 0 = mR M a 0) := by
      rintro (u | u)
      · exact hF.na ha hb u.symm
      · exact hF.ne hb ha ba u
    exact ⟨rb, by unfold cp; rw [rb, (F.2 _ zb.2).2.1], sz M b, (hF.nt hb).fa F n1 n2 ba⟩
  have ps1 := psum_one (f := cp M) (g := cp M') (p := a) L hF.1 ha (fun q hq hqa => (old q hq hqa).2.1)
  have ps2 := psum_one (f := fun p => cp M p / 4) (g := fun p => cp M' p / 4) (p := a) L hF.1 ha (fun q hq hqa => by show cp M' q / 4 = cp M q / 4; rw [(old q hq hqa).2.1])
  have g2 : (Y' = mR M a 0 ∨ mZ M ≤ Y') ∧ C' ≤ 2 * W a ∧ mS M' + 2 * cp M a ≤ mS M + 2 * C' ∧ mZ M' + cp M a / 4 ≤ mZ M + C' / 4 := by
    rcases g with ⟨g1, g2, g3, g4⟩ | ⟨g1, g2, g3, g4, g5⟩
    · exact ⟨Or.inl g1, by omega, by omega, by omega⟩
    · exact ⟨Or.inr (by omega), by omega, by omega, by omega⟩
  refine ⟨⟨⟨o, hF.1, fun b hb => ?_, fun b c hb hc u => ?_⟩, fun t ht => by rw [ht]; exact ha, F', fun t ht => by rw [ht, ra]; exact g2.1, ?_⟩, ?_⟩
  · by_cases ba : b = a
    · rw [ba]
      exact ⟨t.nn, by rw [ca]; exact g2.2.1, W1.2.2⟩
    · obtain ⟨r1, r2, s, ts⟩ := old b hb ba
      exact ⟨ts.nn, by rw [r2]; exact (hF.2.1 b hb).2.1, (hF.2.1 b hb).2.2⟩
  · by_cases ba : b = a
    · by_cases cca : c = a
      · rw [ba, cca]
      · rw [ba, ra, (old c hc cca).1] at u
        have zc := hF.lt hc
        rcases g2.1 with q | q
        · rw [ba]
          exact hF.2.2 a c ha hc (by rw [← q]; exact u)
        · omega
    · by_cases cca : c = a
      · rw [cca, ra, (old b hb ba).1] at u
        have zc := hF.lt hb
        rcases g2.1 with q | q
        · rw [cca]
          exact hF.2.2 b a hb ha (by rw [← q]; exact u)
        · omega
      · rw [(old b hb ba).1, (old c hc cca).1] at u
        exact hF.2.2 b c hb hc u
  · rw [ca] at ps1
    have ps2' : psum (fun p => cp M' p / 4) L + cp M a / 4 = psum (fun p => cp M p / 4) L + C' / 4 := by rw [← ca]; exact ps2
    exact ⟨by omega, by omega⟩
  · rw [t.nv]
    exact e
/-- ints of the numbers of T have changed -/
theorem NF.chg (hF : NF L W M) (hT : ∀ t, T t → t ∈ L) (f : FI (nsS M T) M M') (o : mOk M') (hn : ∀ t, T t → ∃ s, Nt M' t (mR M t 0) (cp M t) s) : NC L W T M M' := by
  have rr : ∀ b, mR M' b 0 = mR M b 0 := fun b => by rw [f.2.2.1]
  have cc : ∀ b, cp M' b = cp M b := fun b => by unfold cp; rw [f.2.2.1, f.2.1]
  refine ⟨⟨o, hF.1, fun b hb => ?_, fun b c hb hc u => ?_⟩, hT, f.fa, fun t _ => Or.inl (rr t), ?_⟩
  · refine ⟨?_, by rw [cc]; exact (hF.2.1 b hb).2.1, (hF.2.1 b hb).2.2⟩
    by_cases c : T b
    · obtain ⟨s, t⟩ := hn b c
      exact t.nn
    · refine ((hF.nt hb).fi f ?_ ?_).nn
      · rintro (u | ⟨t, ht, u⟩)
        · exact c u
        · exact hF.na hb (hT t ht) u
      · rintro (u | ⟨t, ht, u⟩)
        · exact hF.na (hT _ u) hb rfl
        · exact c (by rw [hF.2.2 b t hb (hT t ht) u]; exact ht)
  · rw [rr, rr] at u
    exact hF.2.2 b c hb hc u
  · unfold RmN
    rw [show cp M' = cp M from funext cc, f.2.2.2.2.1, f.2.2.2.2.2.1]
    exact ⟨Nat.le_refl _, Nat.le_refl _⟩
end NAK
