/-! The class's top: division by 0, whole parts, digits. -/
section NCA
variable {G : mG} {d a b q e z n s x t pr st : Nat} {M M0 M' M1 M2 M3 : mM} {L : List Nat} {W : Nat → Nat}
theorem f_divide0 (hO : mOk M) (hF : NF L W M) (hb : b ∈ L) (hq : q ∈ L) (bq : b ≠ q) (hb0 : nv M b = 0) : Cv G y_Na_divide (d + 3) [vr a, vr b, vr q, vr e] M (fun M' => NC L W (fun x => x = q) M M' ∧ nv M' q = 0) := by
  refine k_Na_divide hO ⟨hF.kd hq, (f_put0 (d := d + 2) ⟨by decide, by decide⟩ hO hF hq).mono (fun M2 k2 => ?_)⟩
  obtain ⟨c1, v1⟩ := k2
  have F1 := c1.nf
  have z0 : sz M2 b = 0 := (F1.sz0 hb).2 (by rw [c1.v hF hb bq]; exact hb0)
  have tb := F1.nt hb
  rw [tb.2.1, z0]
  exact ⟨c1.ok, F1.kd hb, fun u => absurd rfl u, fun _ => ⟨c1, v1⟩, fun u => absurd (Or.inl rfl) u⟩
/-- how often a divisor is in a number, 0 for a divisor of 0 -/
theorem f_wholePartZ (hO : mOk M) (hF : NF L W M) (hS : SK L M z) (ha : a ∈ L) (hb : b ∈ L) (ab : a ≠ b) (na : ¬ T4 z a) (nb : ¬ T4 z b) (wa : sz M a + 2 ≤ W a) (w5 : sz M a + 1 ≤ W (z + 5)) (w7 : sz M b + 1 ≤ W (z + 7)) : Ci G y_Sc_wholePart (d + 4) [vr z, vr a, vr b] M (fun x M' => NC L W (fun x => x = a ∨ x = z + 5 ∨ x = z + 7) M M' ∧ 0 ≤ x ∧ x < 1073741824) := by
  by_cases b0 : 0 < nv M b
  · exact (f_wholePart (d := d) hO hF hS ha hb ab na nb b0 wa w5 w7).mono (fun x M' k => ⟨k.1, k.2.2.1, k.2.2.2.1⟩)
  · have z0 : nv M b = 0 := by have := hF.nn0 hb; omega
    obtain ⟨⟨k1, k1'⟩, ⟨-, -, r2, r3, -⟩, -, -, -, ⟨-, -, m5, m7, -⟩, -⟩ := id hS
    have b5 : b ≠ z + 5 := fun e => nb (Or.inr (Or.inr (Or.inl e)))
    refine k_Sc_wholePart hO ?_
    rw [r2, r3]
    refine ⟨k1, hF.kd ha, (f_divide0 (d := d) hO hF hb m5 b5 z0).mono (fun M3 k => ?_)⟩
    obtain ⟨c, v⟩ := k
    have hF3 := c.nf
    have hS3 := (c.nl (I := fun _ => False) (r := False) noI hS.z9).sk hF hS
    obtain ⟨⟨j1, -⟩, ⟨-, -, j2, -⟩, -⟩ := id hS3
    have t5 := hF3.nt m5
    have q0 : sz M3 (z + 5) = 0 := (hF3.sz0 m5).2 v
    rw [j2, t5.2.1, q0]
    refine ⟨c.ok, j1, hF3.kd m5, fun u => absurd rfl u, fun v11 e11 => ?_⟩
    rw [if_pos (show ((0 : Nat) : Int) = 0 from rfl)] at e11
    rw [e11]
    refine ⟨c.mono (fun t ht => Or.inr (Or.inl ht)) (fun t ht => ?_) hF, by decide, by decide⟩
    rcases ht with u | u | u
    · rw [u]; exact ha
    · rw [u]; exact m5
    · rw [u]; exact m7
theorem i2c_b (x : Int) (h : 48 ≤ x ∧ x < 58) : 0 ≤ i2cI x ∧ i2cI x < 65536 := by
  obtain ⟨n, hn, e⟩ : ∃ n : Nat, n < 58 ∧ x = ((n : Nat) : Int) := ⟨x.toNat, by omega, by omega⟩
  have : ∀ n : Nat, n < 58 → 0 ≤ i2cI ((n : Nat) : Int) ∧ i2cI ((n : Nat) : Int) < 65536 := by decide
  rw [e]
  exact this n hn
/-- printed characters -/
def Pch (M : mM) (pr : Nat) : Prop := ∀ j, j < 400 → 0 ≤ mI M pr j ∧ mI M pr j < 65536
/-- the printer's places: t the object, pr its characters, n its number -/
def Prt (L : List Nat) (M : mM) (t pr n : Nat) : Prop := (mK M t = 1 ∧ mR M t 15 = n ∧ mR M t 17 = pr) ∧ (mK M pr = 32 ∧ mN M pr = 400) ∧ (Oc L M t ∧ Oc L M pr ∧ t ≠ pr) ∧ n ∈ L ∧ Pch M pr
def Cpr (t pr x : Nat) : Prop := x = t ∨ x = pr
/-- while digits are printed: at most p characters -/
def pnI (L : List Nat) (W : Nat → Nat) (z t pr n p : Nat) (M0 M : mM) : Prop := NX L W (fun x => x = n) (Cpr t pr) False z M0 M ∧ Prt L M t pr n ∧ ∃ c : Nat, mI M t 18 = ((c : Nat) : Int) ∧ c ≤ p ∧ ∀ i, i ≠ 18 → mI M t i = mI M0 t i
theorem Prt.nx (h : Prt L M t pr n) (q : NX L W (fun x => x = n) (Cpr t pr) False z M M') (hF : NF L W M) (nz : t ≠ z ∧ pr ≠ z) (hp : Pch M' pr) : Prt L M' t pr n := by
  obtain ⟨⟨h1, h2, h3⟩, ⟨h4, h5⟩, ⟨h6, h7, h8⟩, h9, -⟩ := h
  have ot := q.oth h6 nz.1
  have op := q.oth h7 nz.2
  exact ⟨⟨by rw [ot.1]; exact h1, by rw [ot.2.2.1]; exact h2, by rw [ot.2.2.1]; exact h3⟩, ⟨by rw [op.1]; exact h4, by rw [op.2.1]; exact h5⟩, ⟨q.oc hF h6, q.oc hF h7, h8⟩, h9, hp⟩
theorem Prt.cl (h : Prt L M t pr n) : ∀ x, Cpr t pr x → Oc L M x := fun x u => u.elim (fun u => by rw [u]; exact h.2.2.1.1) (fun u => by rw [u]; exact h.2.2.1.2.1)
theorem Prt.tl (h : Prt L M t pr n) : ∀ x, (fun x => x = n) x → x ∈ L := fun x u => by rw [u]; exact h.2.2.2.1
/-- a character is printed -/
theorem pn_put {p : Nat} {v : Int} {c : Nat} (hI : pnI L W z t pr n p M0 M) (nz : t ≠ z ∧ pr ≠ z) (hz : z < mZ M ∧ mK M z = 9) (hc : mI M t 18 = ((c : Nat) : Int)) (hcp : c ≤ p) (hp : p + 1 ≤ 400) (e1 : M1 = mUI M t 18 (((c : Nat) : Int) + 1)) (hv : 0 ≤ v ∧ v < 65536) (e2 : M2 = mUI M1 pr c v) : pnI L W z t pr n (p + 1) M0 M2 ∧ (∀ b, b ∈ L → nv M2 b = nv M b) := by
  obtain ⟨hN, hP, c0, -, -, oi⟩ := hI
  obtain ⟨⟨h1, h2, h3⟩, ⟨h4, h5⟩, ⟨h6, h7, h8⟩, h9, h10⟩ := id hP
  have f1 : FI (Cpr t pr) M M1 := by rw [e1]; exact FI.ui (Or.inl rfl)
  have f2 : FI (Cpr t pr) M1 M2 := by rw [e2]; exact FI.ui (Or.inr rfl)
  have o2 : mOk M2 := by rw [e2]; exact mOk_UI (by rw [e1]; exact mOk_UI hN.ok ⟨by omega, by omega⟩) ⟨by omega, by omega⟩
  have ff := f1.trans f2
  obtain ⟨x, v'⟩ := ff.nx (T := fun x => x = n) (r := False) (z := z) o2 hN.nf hP.tl hP.cl hz
  have pp : Pch M2 pr := fun j hj => by
    rw [mI_ui pr j e2]
    by_cases cj : pr = pr ∧ j = c
    · rw [if_pos cj]; exact hv
    · rw [if_neg cj, mI_ui pr j e1, if_neg (fun u => h8 u.1.symm)]; exact h10 j hj
  have ti : ∀ i, mI M2 t i = if i = 18 then ((c : Nat) : Int) + 1 else mI M t i := fun i => by
    rw [mI_ui t i e2, if_neg (fun u => h8 u.1), mI_ui t i e1]
    by_cases ci : i = 18
    · rw [if_pos ⟨rfl, ci⟩, if_pos ci]
    · rw [if_neg (fun u => ci u.2), if_neg ci]
  exact ⟨⟨hN.trans x, hP.nx x hN.nf nz pp, c + 1, by rw [ti, if_pos rfl]; omega, by omega, fun i hi => by rw [ti, if_neg hi]; exact oi i hi⟩, v'⟩
end NCA
