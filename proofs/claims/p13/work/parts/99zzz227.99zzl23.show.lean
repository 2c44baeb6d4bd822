/-! The class's top: print. -/
section NCJ
variable {G : mG} {d t g s b f n h pr v0 v1 v2 R0 R1 R2 k0 k1 k2 cn cc bc : Nat} {M M0 M' M1 : mM} {L : List Nat} {W : Nat → Nat}
def Csh (t pr h x : Nat) : Prop := x = t ∨ x = pr ∨ x = h
theorem Prt.nx2 {T C : Nat → Prop} {z : Nat} (hp : Prt L M t pr n) (q : NX L W T C False z M M') (hF : NF L W M) (nz : t ≠ z ∧ pr ≠ z) (hC : ¬ C pr) : Prt L M' t pr n := by
  obtain ⟨⟨h1, h2, h3⟩, ⟨h4, h5⟩, ⟨h6, h7, h8⟩, h9, h10⟩ := hp
  have ot := q.oth h6 nz.1
  have op := q.oth h7 nz.2
  exact ⟨⟨by rw [ot.1]; exact h1, by rw [ot.2.2.1]; exact h2, by rw [ot.2.2.1]; exact h3⟩, ⟨by rw [op.1]; exact h4, by rw [op.2.1]; exact h5⟩, ⟨q.oc hF h6, q.oc hF h7, h8⟩, h9, fun j hj => by rw [op.2.2.2 hC]; exact h10 j hj⟩
/-- what print comes to -/
def prQ (L : List Nat) (W : Nat → Nat) (s t pr n h : Nat) (M : mM) (x : Int) (M' : mM) : Prop := i32 x ∧ (M' = M ∨ (NX L W (Tsh s n h) (Csh t pr h) False (s + 1) M M' ∧ Prt L M' t pr n ∧ (∃ c : Nat, mI M' t 18 = ((c : Nat) : Int) ∧ c ≤ 325) ∧ ∀ i, i ≠ 18 → mI M' t i = mI M t i))
/-- the second half: the fraction is in least terms -/
theorem s_pr15 (h1 : mOk M) (hF : NF L W M) (hS : SK L M (s + 1)) (hh : Shn L M t s n h b) (hp : Prt L M t pr n) (pz : pr ≠ s + 1) (hA : nv M (h + 1) < 2 ^ (30 * 17)) (hB : nv M (h + 3) < 2 ^ (30 * 17)) (wn : 17 ≤ W n) {Q : Int → mM → Prop} (hQ : ∀ (x : Int) (M' : mM), i32 x → NX L W (fun x => x = n) (Cpr t pr) False (s + 1) M M' → Prt L M' t pr n → (∃ c : Nat, mI M' t 18 = ((c : Nat) : Int) ∧ c ≤ 325) → (∀ i, i ≠ 18 → mI M' t i = mI M t i) → Q x M') : mK M t = 1 ∧ ∀ M19, M19 = mUI M t 18 0 → mK M19 (mR M19 t 16) = 11 ∧ Cv G y_CA_printNumber (d + 2) [vr t, vr (mR M19 (mR M19 t 16) 0)] M19 (fun M22 => mOk M22 ∧ (mK M22 t = 1 ∧ mK M22 (mR M22 t 16) = 11 ∧ mK M22 (mR M22 (mR M22 t 16) 1) = 10 ∧ Ci G y_Na_isOne (d + 2) [vr (mR M22 (mR M22 t 16) 1)] M22 (fun x29 M28 => i32 x29 ∧ mOk M28 ∧ (((x29 = 0) → (mK M28 t = 1 ∧ i32 ((mI M28 t 18) + 1) ∧ ∀ M40, M40 = mUI M28 t 18 ((mI M28 t 18) + 1) → mK M40 (mR M28 t 17) = 32 ∧ ((0 : Int) ≤ mI M28 t 18 ∧ mI M28 t 18 < (mN M40 (mR M28 t 17) : Int)) ∧ ∀ M44, M44 = mUI M40 (mR M28 t 17) (Int.toNat (mI M28 t 18)) 47 → mK M44 (mR M44 t 16) = 11 ∧ Cv G y_CA_printNumber (d + 2) [vr t, vr (mR M44 (mR M44 t 16) 1)] M44 (fun M47 => mOk M47 ∧ (mK M47 t = 1 ∧ Q (mI M47 t 18) M47)))) ∧ (¬ (x29 = 0) → (mK M28 t = 1 ∧ Q (mI M28 t 18) M28)))))) := by
  have nz : t ≠ s + 1 ∧ pr ≠ s + 1 := ⟨hh.2.2.2.1.2.2, pz⟩
  obtain ⟨-, -, ⟨c1, c2⟩, -, ⟨e1, e2, e3⟩⟩ := id hh
  have z9 : s + 1 < mZ M ∧ mK M (s + 1) = 9 := ⟨hS.1.2, hS.1.1⟩
  refine ⟨hh.1.1, fun M19 e19 => ?_⟩
  have f19 : FI (Cpr t pr) M M19 := by rw [e19]; exact FI.ui (Or.inl rfl)
  have o19 : mOk M19 := by rw [e19]; exact mOk_UI h1 ⟨by decide, by decide⟩
  obtain ⟨X19, v19⟩ := f19.nx (T := fun x => x = n) (r := False) (z := s + 1) o19 hF hp.tl hp.cl z9
  have S19 := hh.nx X19 hF
  have t19 : ∀ i, mI M19 t i = if i = 18 then 0 else mI M t i := fun i => by
    rw [mI_ui t i e19]
    by_cases c : i = 18
    · rw [if_pos ⟨rfl, c⟩, if_pos c]
    · rw [if_neg (fun u => c u.2), if_neg c]
  have P19 : Prt L M19 t pr n := hp.nx X19 hF nz (fun j hj => by rw [mI_ui pr j e19, if_neg (fun u => hp.2.2.1.2.2 u.1.symm)]; exact hp.2.2.2.2 j hj)
  rw [S19.1.2.2.2, S19.2.2.1.2.1.2.1.1]
  refine ⟨S19.2.2.1.2.1.1, (s_CA_printNumber (d := d) (st := 0) o19 X19.nf P19 nz X19.z9 c2.2.1 (by omega) (by rw [v19 _ c2.2.1]; exact hA) wn (by rw [t19, if_pos rfl]; rfl) (by decide)).mono (fun M22 q => ?_)⟩
  obtain ⟨X22, P22, c, hc, hcp, oi⟩ := id q
  have S22 := S19.nx X22 X19.nf
  have F22 := X22.nf
  have nB : nv M22 (h + 3) < 2 ^ (30 * 17) := by
    rw [(X22.num X19.nf c2.2.2 (fun w => by have w' : h + 3 = n := w; omega)).2.2, v19 _ c2.2.2]
    exact hB
  rw [S22.1.2.2.2, S22.2.2.1.2.1.2.1.2]
  refine ⟨X22.ok, P22.1.1, S22.2.2.1.2.1.1, F22.kd c2.2.2, (s_Na_isOne (d := d + 2) X22.ok (F22.nt c2.2.2)).mono (fun x29 M28 q2 => ?_)⟩
  obtain ⟨e28, hx, -⟩ := q2
  subst e28
  rw [hc, P22.1.2.2]
  refine ⟨m_b32 hx, X22.ok, fun _ => ⟨P22.1.1, i32s (by omega) (by omega), fun M40 e40 => ?_⟩, fun _ => ⟨P22.1.1, hQ _ _ (i32s (by omega) (by omega)) (X19.trans X22) P22 ⟨c, hc, by omega⟩ (fun i hi => by rw [oi i hi, t19, if_neg hi])⟩⟩
  have f40 : FI (Cpr t pr) M28 M40 := by rw [e40]; exact FI.ui (Or.inl rfl)
  rw [f40.1, f40.2.1, P22.2.1.2, Int.toNat_natCast]
  refine ⟨P22.2.1.1, ⟨by omega, by omega⟩, fun M44 e44 => ?_⟩
  obtain ⟨I44, v44⟩ := pn_put (v := 47) q nz X22.z9 hc hcp (by decide) e40 ⟨by decide, by decide⟩ e44
  obtain ⟨X44, P44, -, -, -, oi44⟩ := id I44
  have S44 := S19.nx X44 X19.nf
  have hc44 : mI M44 t 18 = ((c + 1 : Nat) : Int) := by
    rw [mI_ui t 18 e44, if_neg (fun u => P22.2.2.1.2.2 u.1), mI_ui t 18 e40, if_pos ⟨rfl, rfl⟩]
    omega
  rw [S44.1.2.2.2, S44.2.2.1.2.1.2.1.2]
  refine ⟨S44.2.2.1.2.1.1, (s_CA_printNumber (d := d) (st := c + 1) X44.ok X44.nf P44 nz X44.z9 c2.2.2 (by omega) (by rw [v44 _ c2.2.2]; exact nB) wn hc44 (by omega)).mono (fun M47 q3 => ?_)⟩
  obtain ⟨X47, P47, c', hc', hcp', oi47⟩ := q3
  rw [hc']
  exact ⟨X47.ok, P47.1.1, hQ _ _ (i32s (by omega) (by omega)) ((X19.trans X44).trans X47) P47 ⟨c', hc', by omega⟩ (fun i hi => by rw [oi47 i hi, oi44 i hi, t19, if_neg hi])⟩
end NCJ
