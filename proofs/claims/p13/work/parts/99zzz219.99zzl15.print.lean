/-! The class's top: a number is printed. -/
section NCB
variable {G : mG} {d a b z n x t pr st p : Nat} {M M0 M' M1 M2 M3 : mM} {L : List Nat} {W : Nat → Nat}
theorem NX.z9 {T C : Nat → Prop} {r : Prop} (h : NX L W T C r z M M') : z < mZ M' ∧ mK M' z = 9 := ⟨Nat.lt_of_lt_of_le h.2.1.2.2.1 h.2.2.1.1.1, by rw [h.kind h.2.1.2.2.1]; exact h.2.1.2.2.2⟩
/-- turning the characters round -/
theorem s_pn144 {Q : mM → Prop} (nz : t ≠ z ∧ pr ≠ z) (hQ : ∀ M', pnI L W z t pr n p M0 M' → Q M') : ∀ (k : Nat) (lo hi : Int) (M : mM), hi - lo ≤ k → 0 ≤ lo → lo < 400 → -1 ≤ hi → hi < 400 → pnI L W z t pr n p M0 M → h_CA_printNumber_144 G d t lo hi M Q := by
  intro k
  induction k with
  | zero =>
    intro lo hi M h1 h2 h2' h3 h4 hI
    exact k_CA_printNumber_144 hI.1.ok ⟨by omega, by omega⟩ ⟨by omega, by omega⟩ ⟨fun _ => hQ M hI, fun u => absurd (by omega) u⟩
  | succ k ih =>
    intro lo hi M h1 h2 h2' h3 h4 hI
    refine k_CA_printNumber_144 hI.1.ok ⟨by omega, by omega⟩ ⟨by omega, by omega⟩ ⟨fun _ => hQ M hI, fun u => ?_⟩
    obtain ⟨hN, hP, c, hc, hcp, oi⟩ := id hI
    obtain ⟨⟨e1, e2, e3⟩, ⟨k1, n1⟩, ⟨o1, o2, ne⟩, mn, hp⟩ := id hP
    obtain ⟨l, el⟩ : ∃ l : Nat, lo = ((l : Nat) : Int) := ⟨lo.toNat, by omega⟩
    obtain ⟨h, eh⟩ : ∃ h : Nat, hi = ((h : Nat) : Int) := ⟨hi.toNat, by omega⟩
    subst el
    subst eh
    have pl := hp l (by omega)
    have ph := hp h (by omega)
    rw [e3, n1, Int.toNat_natCast, Int.toNat_natCast]
    refine ⟨e1, k1, ⟨by omega, by omega⟩, ⟨by omega, by omega⟩, ⟨by omega, by omega⟩, ph, fun M70 e70 => ?_⟩
    have f70 : FI (Cpr t pr) M M70 := by rw [e70]; exact FI.ui (Or.inr rfl)
    rw [f70.1, f70.2.1, f70.2.2.1, e3, n1]
    refine ⟨k1, ⟨by omega, by omega⟩, pl, fun M75 e75 => ?_⟩
    have f75 : FI (Cpr t pr) M70 M75 := by rw [e75]; exact FI.ui (Or.inr rfl)
    have o75 : mOk M75 := by rw [e75]; exact mOk_UI (by rw [e70]; exact mOk_UI hN.ok ⟨by omega, by omega⟩) ⟨by omega, by omega⟩
    obtain ⟨xx, -⟩ := (f70.trans f75).nx (T := fun x => x = n) (r := False) (z := z) o75 hN.nf hP.tl hP.cl hN.z9
    have pp : Pch M75 pr := fun j hj => by
      rw [mI_ui pr j e75]
      by_cases cj : pr = pr ∧ j = h
      · rw [if_pos cj]; exact pl
      · rw [if_neg cj, mI_ui pr j e70]
        by_cases cj2 : pr = pr ∧ j = l
        · rw [if_pos cj2]; exact ph
        · rw [if_neg cj2]; exact hp j hj
    have tt : mI M75 t = mI M t := by
      funext i
      rw [mI_ui t i e75, if_neg (fun u => ne u.1), mI_ui t i e70, if_neg (fun u => ne u.1)]
    exact ih _ _ M75 (by omega) (by omega) (by omega) (by omega) (by omega) ⟨hN.trans xx, hP.nx xx hN.nf nz pp, c, by rw [tt]; exact hc, hcp, fun i hi => by rw [tt]; exact oi i hi⟩
/-- nine digits -/
theorem s_pn68 {Q : mM → Prop} {l2 l3 : Int} {b5 : Int} {v : Int} (h2 : i32 l2) (h3 : i32 l3) (h5 : b5 = 0 ∨ b5 = 1) (nz : t ≠ z ∧ pr ≠ z) (hp : p + 9 ≤ 400) (hQ : ∀ M', pnI L W z t pr n (p + 9) M0 M' → nv M' n = v → h_CA_printNumber_15 G d t l2 (l3 + 1) M' Q) : ∀ (k i : Nat) (nine : Int) (M : mM), 9 ≤ i + k → i ≤ 9 → 0 ≤ nine → nine < 1000000000 → pnI L W z t pr n (p + i) M0 M → nv M n = v → h_CA_printNumber_68 G d t l2 l3 nine b5 i M Q := by
  have up : ∀ {i : Nat} {M : mM}, i ≤ 9 → pnI L W z t pr n (p + i) M0 M → pnI L W z t pr n (p + 9) M0 M := fun hi h => by
    obtain ⟨a1, a2, c, a3, a4, a5⟩ := h
    exact ⟨a1, a2, c, a3, by omega, a5⟩
  intro k
  induction k with
  | zero =>
    intro i nine M h1 h2' h6 h7 hI hv
    exact k_CA_printNumber_68 hI.1.ok h2 h3 ⟨by omega, by omega⟩ (m_b32 h5) ⟨by omega, by omega⟩ ⟨fun _ => hQ M (up h2' hI) hv, fun u => absurd (Or.inl (by omega)) u⟩
  | succ k ih =>
    intro i nine M h1 h2' h6 h7 hI hv
    refine k_CA_printNumber_68 hI.1.ok h2 h3 ⟨by omega, by omega⟩ (m_b32 h5) ⟨by omega, by omega⟩ ⟨fun _ => hQ M (up h2' hI) hv, fun u => ?_⟩
    have i9 : i < 9 := by
      by_cases c : (9 : Int) ≤ i
      · exact absurd (Or.inl c) u
      · omega
    obtain ⟨hN, hP, c, hc, hcp, oi⟩ := id hI
    obtain ⟨⟨e1, e2, e3⟩, ⟨k1, n1⟩, ⟨o1, o2, ne⟩, mn, hp'⟩ := id hP
    have tm : Int.tmod nine 10 = nine % 10 := Int.tmod_eq_emod_of_nonneg h6
    have td : Int.tdiv nine 10 = nine / 10 := Int.tdiv_eq_ediv_of_nonneg h6
    rw [hc, e3, tm, td]
    have cb := i2c_b (48 + nine % 10) ⟨by omega, by omega⟩
    refine ⟨e1, ⟨by omega, by omega⟩, fun M46 e46 => ?_⟩
    have f46 : FI (Cpr t pr) M M46 := by rw [e46]; exact FI.ui (Or.inl rfl)
    rw [f46.1, f46.2.1, n1, Int.toNat_natCast]
    refine ⟨k1, ⟨by omega, by omega⟩, cb, fun M51 e51 => ?_⟩
    obtain ⟨I2, v2⟩ := pn_put hI nz hN.z9 hc hcp (by omega) e46 cb e51
    rw [show ((i : Int) + 1) = ((i + 1 : Nat) : Int) by omega]
    exact ih (i + 1) _ M51 (by omega) (by omega) (by omega) (by omega) I2 (by rw [v2 n mn]; exact hv)
theorem p9 (k : Nat) : (1000000000 : Int) ^ (k + 1) = 1000000000 * 1000000000 ^ k := by rw [Int.pow_succ, Int.mul_comm]
/-- the digits of a number, from the place st on -/
theorem s_CA_printNumber (hO : mOk M) (hF : NF L W M) (hP : Prt L M t pr n) (nz : t ≠ z ∧ pr ≠ z) (hz : z < mZ M ∧ mK M z = 9) (ha : a ∈ L) (na : n ≠ a) (hv : nv M a < 2 ^ (30 * 17)) (wn : 17 ≤ W n) (hs : mI M t 18 = ((st : Nat) : Int)) (hst : st + 162 ≤ 400) : Cv G y_CA_printNumber (d + 2) [vr t, vr a] M (pnI L W z t pr n (st + 162) M) := by
  obtain ⟨⟨e1, e2, e3⟩, ⟨k1, n1⟩, ⟨o1, o2, ne⟩, mn, hp⟩ := id hP
  refine k_CA_printNumber hO ?_
  rw [e2]
  refine ⟨e1, hF.kd mn, (f_put1 (d := d) hO hF mn ha na (by have := hF.szv ha hv; omega)).mono (fun M3 q => ?_)⟩
  obtain ⟨c3, v3⟩ := q
  have x3 : NX L W (fun x => x = n) (Cpr t pr) False z M M3 := c3.nx hP.cl hz
  have ot := c3.oth o1
  have op := c3.oth o2
  have P3 : Prt L M3 t pr n := hP.nx x3 hF nz (fun j hj => by rw [op.2.2.2]; exact hp j hj)
  have hs3 : mI M3 t 18 = ((st : Nat) : Int) := by rw [ot.2.2.2]; exact hs
  have big : (2 : Int) ^ (30 * 17) ≤ 1000000000 ^ 18 := by decide +kernel
  rw [hs3]
  refine ⟨c3.ok, P3.1.1, ?_⟩
  suffices HH : ∀ (k i : Nat) (M1 : mM), 18 ≤ i + k → i ≤ 18 → pnI L W z t pr n (st + 9 * i) M M1 → nv M1 n < 1000000000 ^ (18 - i) → h_CA_printNumber_15 G (d + 1) t st i M1 (pnI L W z t pr n (st + 162) M) from
    HH 18 0 M3 (by omega) (by omega) ⟨x3, P3, st, hs3, by omega, fun i _ => by rw [ot.2.2.2]⟩ (by rw [v3]; exact Int.lt_of_lt_of_le hv big)
  have up : ∀ {i : Nat} {M : mM} {M0 : mM}, i ≤ 18 → pnI L W z t pr n (st + 9 * i) M0 M → pnI L W z t pr n (st + 162) M0 M := fun hi h => by
    obtain ⟨a1, a2, c, a3, a4, a5⟩ := h
    exact ⟨a1, a2, c, a3, by omega, a5⟩
  have turn : ∀ (i : Nat) (M1 : mM), i ≤ 18 → pnI L W z t pr n (st + 9 * i) M M1 → mK M1 t = 1 ∧ h_CA_printNumber_144 G (d + 1) t st ((mI M1 t 18) - 1) M1 (pnI L W z t pr n (st + 162) M) := fun i M1 hi hI => by
    have hI' := up hi hI
    obtain ⟨-, hP1, c, hc, hcp, -⟩ := id hI'
    rw [hc]
    exact ⟨hP1.1.1, s_pn144 nz (fun M' h => h) 400 _ _ M1 (by omega) (by omega) (by omega) (by omega) (by omega) hI'⟩
  intro k
  induction k with
  | zero =>
    intro i M1 h1 h2 hI hv1
    have ei : i = 18 := by omega
    subst ei
    obtain ⟨hN, hP1, -⟩ := id hI
    have m1 := hP1.2.2.2.1
    have z0 : sz M1 n = 0 := (hN.nf.sz0 m1).2 (by
      have := hN.nf.nn0 m1
      have h0 : (1000000000 : Int) ^ (18 - 18) = 1 := by decide
      omega)
    refine k_CA_printNumber_15 hN.ok ⟨by omega, by omega⟩ ⟨by omega, by omega⟩ ?_
    rw [hP1.1.2.1, (hN.nf.nt m1).2.1, z0]
    exact ⟨fun _ _ => ⟨hP1.1.1, hN.nf.kd m1⟩, fun _ => turn 18 M1 (Nat.le_refl _) hI, fun u => absurd (Or.inr ⟨by decide, by decide⟩) u⟩
  | succ k ih =>
    intro i M1 h1 h2 hI hv1
    by_cases ei : i = 18
    · exact ih i M1 (by omega) h2 hI hv1
    obtain ⟨hN, hP1, -⟩ := id hI
    have m1 := hP1.2.2.2.1
    refine k_CA_printNumber_15 hN.ok ⟨by omega, by omega⟩ ⟨by omega, by omega⟩ ?_
    rw [hP1.1.2.1]
    refine ⟨fun _ _ => ⟨hP1.1.1, hN.nf.kd m1⟩, fun _ => turn i M1 h2 hI, fun _ => ⟨hP1.1.1, hN.nf.kd m1, (f_divideSmall (d := d + 1) (dv := 1000000000) ⟨by decide, by decide⟩ hN.ok hN.nf m1).mono (fun x19 M18 q => ?_)⟩⟩
    obtain ⟨c18, hx, v18⟩ := q
    have x18 : NX L W (fun x => x = n) (Cpr t pr) False z M1 M18 := c18.nx hP1.cl hN.z9
    have ot1 := c18.oth hP1.2.2.1.1
    have op1 := c18.oth hP1.2.2.1.2.1
    have P18 : Prt L M18 t pr n := hP1.nx x18 hN.nf nz (fun j hj => by rw [op1.2.2.2]; exact hP1.2.2.2.2 j hj)
    have n18 := c18.nf.nn0 m1
    have vb : nv M18 n < 1000000000 ^ (18 - (i + 1)) := by
      rw [show 18 - i = (18 - (i + 1)) + 1 by omega, p9] at hv1
      omega
    have I18 : pnI L W z t pr n (st + 9 * i) M M18 := by
      obtain ⟨-, -, c, hc, hcp, oi⟩ := hI
      exact ⟨hN.trans x18, P18, c, by rw [ot1.2.2.2]; exact hc, hcp, fun j hj => by rw [ot1.2.2.2]; exact oi j hj⟩
    rw [P18.1.2.1]
    refine ⟨⟨by omega, by omega⟩, c18.ok, P18.1.1, c18.nf.kd m1, fun v24 e24 => ?_⟩
    have b24 : v24 = 0 ∨ v24 = 1 := by rw [e24]; split <;> omega
    refine s_pn68 (p := st + 9 * i) (v := nv M18 n) ⟨by omega, by omega⟩ ⟨by omega, by omega⟩ b24 nz (by omega) (fun M' hI' hv' => ?_) 9 0 x19 M18 (by omega) (by omega) hx.1 hx.2 I18 rfl
    rw [show ((i : Int) + 1) = ((i + 1 : Nat) : Int) by omega]
    exact ih (i + 1) M' (by omega) (by omega) (by rw [show st + 9 * (i + 1) = st + 9 * i + 9 by omega]; exact hI') (by rw [hv']; exact vb)
end NCB
