section
/-! The Residues: systems settled. -/
section NBM
variable {G : mG} {d e z n m i k rows B u bits x : Nat} {M M0 M' M1 M2 M3 : mM} {P a b y X Y : Int} {L : List Nat} {W : Nat → Nat}
/-- what the Residues may change -/
def NR (L : List Nat) (W : Nat → Nat) (e : Nat) (M M' : mM) : Prop := (mOk M' ∧ NF L W M') ∧ FA (fun x => nsS M (Trs e) x ∨ S36 e x) (Trs e) M M' ∧ (∀ t, Trs e t → mR M' t 0 = mR M t 0 ∨ mZ M ≤ mR M' t 0) ∧ RmN L M M'
theorem NR.ok (h : NR L W e M M') : mOk M' := h.1.1
theorem NR.nf (h : NR L W e M M') : NF L W M' := h.1.2
theorem NR.refl (hO : mOk M) (hF : NF L W M) : NR L W e M M := ⟨⟨hO, hF⟩, FA.refl, fun _ _ => Or.inl rfl, RmN.refl⟩
theorem NR.trans (h : NR L W e M M1) (k : NR L W e M1 M2) : NR L W e M M2 := by
  obtain ⟨-, h3, h4, h5⟩ := h
  obtain ⟨k1, k3, k4, k5⟩ := k
  refine ⟨k1, h3.trans2 k3 ?_ (fun _ _ y => y), fun t ht => ?_, h5.trans k5⟩
  · intro x hx u
    rcases u with (u | ⟨t, ht, u⟩) | u
    · exact Or.inl (Or.inl u)
    · rcases h4 t ht with q | q
      · exact Or.inl (Or.inr ⟨t, ht, by rw [u, q]⟩)
      · omega
    · exact Or.inr u
  · rcases k4 t ht with q | q
    · rw [q]; exact h4 t ht
    · exact Or.inr (Nat.le_trans h3.1.1 q)
theorem RsK.ncr {T : Nat → Prop} (h : RsK L M e) (k : NC L W T M M') (hF : NF L W M) (hT : ∀ t, T t → Trs e t) : NR L W e M M' := by
  have k' := k.mono hT h.tl hF
  exact ⟨k'.1, k'.2.2.1.mono (fun x _ u => Or.inl u) (fun _ _ u => u), k'.2.2.2.1, k'.2.2.2.2⟩
theorem RsK.s36 (h : RsK L M e) : ∀ x, S36 e x → Oc L M x := fun x u => by
  rcases u with u | u | u | u
  · rw [u]; exact h.2.1 3 (by decide)
  · rw [u]; exact h.2.1 4 (by decide)
  · rw [u]; exact h.2.1 5 (by decide)
  · rw [u]; exact h.2.1 6 (by decide)
/-- the residues' tables change -/
theorem RsK.fir (h : RsK L M e) (f : FI (S36 e) M M') (o : mOk M') (hF : NF L W M) : NR L W e M M' ∧ RsK L M' e ∧ (∀ a, a ∈ L → nv M' a = nv M a) ∧ mI M' (e + 1) = mI M (e + 1) := by
  have oc := h.s36
  have nt' : ∀ a, a ∈ L → Nt M' a (mR M a 0) (cp M a) (sz M a) := fun a ha => (hF.nt ha).fi f (fun u => (oc a u).2.1 ha) (fun u => (oc _ u).2.2 a ha rfl)
  have cc : ∀ a, cp M' a = cp M a := fun a => by unfold cp; rw [f.2.2.1, f.2.1]
  have nf : NF L W M' := ⟨hF.1, fun a ha => ⟨(nt' a ha).nn, by rw [cc]; exact (hF.2.1 a ha).2.1, (hF.2.1 a ha).2.2⟩, fun a b ha hb u => hF.2.2 a b ha hb (by rw [← f.2.2.1]; exact u)⟩
  refine ⟨⟨⟨o, nf⟩, f.fa.mono (fun x _ u => Or.inr u) (fun _ _ u => u), fun t _ => Or.inl (by rw [f.2.2.1]), ?_⟩, ⟨h.1.fi f, fun i hi => ⟨by rw [f.2.2.2.2.1]; exact (h.2.1 i hi).1, (h.2.1 i hi).2.1, fun a ha u => (h.2.1 i hi).2.2 a ha (by rw [← f.2.2.1]; exact u)⟩, fun i hi => by rw [f.2.2.1]; exact h.2.2.1 i hi, h.2.2.2⟩, fun a ha => ?_, f.2.2.2.2.2.2 (e + 1) (fun u => by unfold S36 at u; omega)⟩
  · unfold RmN
    rw [show cp M' = cp M from funext cc, f.2.2.2.2.1, f.2.2.2.2.2.1]
    exact ⟨Nat.le_refl _, Nat.le_refl _⟩
  · rw [(nt' a ha).nv]
    unfold nv
    rw [f.2.2.2.2.2.2 _ (fun u => (oc _ u).2.2 a ha rfl)]
theorem tr_ne {i j : Nat} (h : i ≠ j) : e + 9 + 2 * i ≠ e + 9 + 2 * j := by omega
theorem tr_n7 : e + 9 + 2 * i ≠ e + 7 := by omega
/-- small numbers, all below the modulus -/
def Rm9 (M : mM) (e rows : Nat) (mo : Int) : Prop := nv M (e + 7) = mo ∧ 0 < mo ∧ ∀ i, i ≤ rows → nv M (e + 9 + 2 * i) < mo
theorem s_cm17 {inv mo : Int} (hP : 1000000000 < P ∧ P < 1073741824) (hr : rows ≤ 40) (hK : RsK L M e) (hF : NF L W M) (hm : Rm9 M e rows mo) (hu : mo < 2 ^ (30 * u)) (u38 : u ≤ 38) (hW : ∀ x, Trs e x → 40 ≤ W x) (hrd : Rd9 M e P 0 rows) (hi : 0 ≤ inv ∧ inv ≤ P) : ∀ (t i : Nat) (M1 : mM), rows + 1 ≤ i + t → i ≤ rows + 1 → NC L W (Trs e) M M1 → RsK L M1 e → Rd9 M1 e P 0 rows → nv M1 (e + 7) = mo → (∀ j, j < i → nv M1 (e + 9 + 2 * j) < P * mo) → (∀ j, i ≤ j → j ≤ rows → nv M1 (e + 9 + 2 * j) < mo) → h_Re_combine_17 G (d + 3) e rows P inv i M1 (fun M' => NC L W (Trs e) M M' ∧ RsK L M' e ∧ mI M' (e + 1) = mI M (e + 1) ∧ Rm9 M' e rows (P * mo)) := by
  have e1' : ∀ {M1 : mM}, NC L W (Trs e) M M1 → mI M1 (e + 1) = mI M (e + 1) := fun k => (hK.nc k hF).2 1 (by decide)
  have fin : ∀ (i : Nat) (M1 : mM), i = rows + 1 → NC L W (Trs e) M M1 → RsK L M1 e → nv M1 (e + 7) = mo → (∀ j, j < i → nv M1 (e + 9 + 2 * j) < P * mo) → mK M1 e = 12 ∧ mK M1 (mR M1 e 6) = 10 ∧ Cv G y_Na_multiply (d + 3) [vr (mR M1 e 6), vi P] M1 (fun M13 => mOk M13 ∧ (NC L W (Trs e) M M13 ∧ RsK L M13 e ∧ mI M13 (e + 1) = mI M (e + 1) ∧ Rm9 M13 e rows (P * mo))) := by
    intro i M1 ei hN k1 v7 dn'
    obtain ⟨⟨e0, ⟨-, -, -, -, -, -, r6⟩, -, -⟩, o, p, m7⟩ := id k1
    have F1 := hN.nf
    have s7 := F1.szv m7 (show nv M1 (e + 7) < 2 ^ (30 * u) by rw [v7]; exact hu)
    rw [r6]
    refine ⟨e0, F1.kd m7, (f_multiply (d := d + 1) ⟨by omega, hP.2⟩ hN.ok F1 m7 (by have := hW (e + 7) (Or.inl rfl); omega)).mono (fun M13 q => ?_)⟩
    obtain ⟨c, v⟩ := q
    have c' := c.mono (T' := Trs e) (fun t ht => Or.inl ht) k1.tl F1
    have N2 := hN.trans c'
    rw [v7] at v
    exact ⟨c.ok, N2, (k1.nc c F1).1, e1' N2, v, Int.mul_pos (by omega) hm.2.1, fun j hj => by rw [c.v F1 (p j (by omega)).2 tr_n7]; exact dn' j (by omega)⟩
  intro t
  induction t with
  | zero =>
    intro i M1 h1 h2 hN k1 rd v7 dn' up
    exact k_Re_combine_17 hN.ok ⟨by omega, by omega⟩ ⟨by omega, by omega⟩ ⟨by omega, by omega⟩ ⟨by omega, by omega⟩ ⟨fun _ => fin i M1 (by omega) hN k1 v7 dn', fun u => absurd (by omega) u⟩
  | succ t ih =>
    intro i M1 h1 h2 hN k1 rd v7 dn' up
    by_cases ei : i = rows + 1
    · exact ih i M1 (by omega) h2 hN k1 rd v7 dn' up
    obtain ⟨⟨e0, ⟨-, r1, -, -, -, r5, r6⟩, ⟨-, k2, -, -, -, k6⟩, ⟨-, n2, -, -, -, n6⟩⟩, o, p, m7⟩ := id k1
    have F1 := hN.nf
    obtain ⟨pi, mi⟩ := p i (by omega)
    have ri := rd i (by omega) (by omega)
    have vi0 := up i (Nat.le_refl _) (by omega)
    have s7 := F1.szv m7 (show nv M1 (e + 7) < 2 ^ (30 * u) by rw [v7]; exact hu)
    have si := F1.szv mi (Int.lt_trans vi0 hu)
    have wi := hW _ (Or.inr ⟨i, by omega, rfl⟩)
    refine k_Re_combine_17 hN.ok ⟨by omega, by omega⟩ ⟨by omega, by omega⟩ ⟨by omega, by omega⟩ ⟨by omega, by omega⟩ ⟨fun u => absurd u (by omega), fun _ => ?_⟩
    rw [r5, r1, n6, n2, Int.toNat_natCast, pi]
    refine ⟨e0, k6, ⟨by omega, by omega⟩, k2, ⟨by omega, by omega⟩, F1.kd mi, (s_Na_modulo (d := d + 3) ⟨by omega, hP.2⟩ hN.ok (F1.nt mi)).mono (fun x23 M22 q => ?_)⟩
    obtain ⟨e22, x0, x1⟩ := q
    rw [e22, r1, n2, pi, r6]
    have q0 : 0 ≤ mI M1 (e + 6) i + P - x23 := by omega
    obtain ⟨t1, t2, t3⟩ := tm_b (P := P) q0 (by omega)
    rw [t1]
    obtain ⟨p1, p2⟩ := pr_b hP.2 ⟨t2, Int.le_of_lt t3⟩ hi ⟨Int.le_refl 0, by omega⟩
    rw [Int.zero_add] at p1 p2
    obtain ⟨t4, t5, t6⟩ := tm_b (P := P) p1 (by omega)
    rw [t4]
    refine ⟨⟨by omega, by omega⟩, hN.ok, e0, k2, ⟨by omega, by omega⟩, ⟨by omega, by omega⟩, by omega, p2, by omega, F1.kd mi, (f_add (d := d) ⟨t5, by omega⟩ hN.ok F1 mi m7 tr_n7 (by omega) (by omega)).mono (fun M33 q => ?_)⟩
    obtain ⟨c, v⟩ := q
    have c' := c.mono (T' := Trs e) (fun t ht => Or.inr ⟨i, by omega, ht⟩) k1.tl F1
    obtain ⟨k33, i33⟩ := k1.nc c F1
    rw [show ((i : Int) + 1) = ((i + 1 : Nat) : Int) by omega]
    have v7' := (c.v F1 m7 (fun e => tr_n7 e.symm)).trans v7
    refine ⟨c.ok, ih (i + 1) M33 (by omega) (by omega) (hN.trans c') k33 (fun j h1 h2 => by rw [i33 6 (by decide)]; exact rd j h1 h2) v7' (fun j hj => ?_) (fun j hj1 hj2 => by rw [c.v F1 (p j (by omega)).2 (tr_ne (by omega))]; exact up j (by omega) hj2)⟩
    by_cases cj : j = i
    · rw [cj, v, v7]
      have := Int.mul_le_mul_of_nonneg_right (show (mI M1 (e + 6) i + P - x23) % P * inv % P + 1 ≤ P by omega) (Int.le_of_lt hm.2.1)
      rw [Int.add_mul, Int.one_mul] at this
      omega
    · rw [c.v F1 (p j (by omega)).2 (tr_ne cj)]
      exact dn' j (by omega)
theorem s_Re_combine {mo : Int} (hP : 1000000000 < P ∧ P < 1073741824) (hr : rows ≤ 40) (hO : mOk M) (hK : RsK L M e) (hF : NF L W M) (hm : Rm9 M e rows mo) (hu : mo < 2 ^ (30 * u)) (u38 : u ≤ 38) (hW : ∀ x, Trs e x → 40 ≤ W x) (hrd : Rd9 M e P 0 rows) : Cv G y_Re_combine (d + 4) [vr e, vi rows, vi P] M (fun M' => NC L W (Trs e) M M' ∧ RsK L M' e ∧ mI M' (e + 1) = mI M (e + 1) ∧ Rm9 M' e rows (P * mo)) := by
  obtain ⟨⟨e0, ⟨-, -, -, -, -, -, r6⟩, -, -⟩, o, p, m7⟩ := id hK
  refine k_Re_combine hO ⟨by omega, by omega⟩ ⟨by omega, by omega⟩ ?_
  rw [r6]
  refine ⟨e0, hF.kd m7, (s_Na_modulo (d := d + 3) ⟨by omega, hP.2⟩ hO (hF.nt m7)).mono (fun x4 M3 q => ?_)⟩
  obtain ⟨e3, x0, x1⟩ := q
  rw [e3]
  refine ⟨⟨by omega, by omega⟩, hO, (s_Re_inverse (d := d + 3) ⟨x0, Int.le_of_lt x1⟩ ⟨by omega, hP.2⟩ hO).mono (fun x7 M6 q => ?_)⟩
  obtain ⟨e6, y0, y1⟩ := q
  rw [e6]
  exact ⟨⟨by omega, by omega⟩, hO, s_cm17 hP hr hK hF hm hu u38 hW hrd ⟨y0, y1⟩ (rows + 1) 0 M (by omega) (by omega) (NC.refl hO hF hK.tl) hK hrd hm.1 (fun j hj => absurd hj (by omega)) (fun j _ hj => hm.2.2 j hj)⟩
theorem prL_b : ∀ i, i < 36 → 1000000000 < prL.getD i 0 ∧ prL.getD i 0 < 1073741824 := by decide
/-- what settling leaves behind -/
def settQ (L : List Nat) (W : Nat → Nat) (e rows bits : Nat) (M M' : mM) : Prop := NR L W e M M' ∧ RsK L M' e ∧ ∀ i, i ≤ rows → nv M' (e + 9 + 2 * i) < 2 ^ (bits + 30)
theorem s_se33 (hr : rows ≤ 40) (hb : bits ≤ 1000) (hF0 : NF L W M) (hE : Ent9 M e (rows * 41)) (hW : ∀ x, Trs e x → 40 ≤ W x) : ∀ (t i : Nat) (mo : Int) (M1 : mM), 36 ≤ i + t → i ≤ 36 → NR L W e M M1 → RsK L M1 e → mI M1 (e + 1) = mI M (e + 1) → Rm9 M1 e rows mo → mo < 2 ^ (30 * (i + 1)) → mo < 2 ^ (bits + 30) → h_Re_settle_33 G (d + 4) e rows bits i M1 (settQ L W e rows bits M) := by
  intro t
  induction t with
  | zero =>
    intro i mo M1 h1 h2 hN k1 i1 hm hu hb'
    exact k_Re_settle_33 hN.ok ⟨by omega, by omega⟩ ⟨by omega, by omega⟩ ⟨by omega, by omega⟩ ⟨fun _ => ⟨hN, k1, fun j hj => Int.lt_trans (hm.2.2 j hj) hb'⟩, fun u => absurd (by omega) u⟩
  | succ t ih =>
    intro i mo M1 h1 h2 hN k1 i1 hm hu hb'
    have done : settQ L W e rows bits M M1 := ⟨hN, k1, fun j hj => Int.lt_trans (hm.2.2 j hj) hb'⟩
    refine k_Re_settle_33 hN.ok ⟨by omega, by omega⟩ ⟨by omega, by omega⟩ ⟨by omega, by omega⟩ ⟨fun _ => done, fun u => ?_⟩
    have F1 := hN.nf
    obtain ⟨⟨e0, ⟨-, -, -, -, -, -, r6⟩, -, -⟩, o, p, m7⟩ := id k1
    have cb := F1.cb m7
    have sc := F1.sc m7
    rw [r6, Int.toNat_natCast, show ((i : Int) + 1) = ((i + 1 : Nat) : Int) by omega]
    refine ⟨e0, F1.kd m7, (s_Na_bits (d := d + 3) hN.ok (F1.nt m7)).mono (fun x20 M19 q => ?_)⟩
    obtain ⟨e19, nb, en, n1, n2, -⟩ := q
    have n2' : nv M1 (e + 7) < 2 ^ nb := n2
    rw [hm.1] at n2'
    rw [e19]
    refine ⟨⟨by omega, by omega⟩, hN.ok, fun _ => done, fun nl => ⟨⟨by omega, by omega⟩, e0, ?_⟩⟩
    obtain ⟨P1, P2⟩ := prL_b i (by omega)
    generalize prL.getD i 0 = P at *
    have mb : mo < 2 ^ bits := Int.lt_of_lt_of_le n2' (p2m (by omega))
    have pm1 : P * mo < 2 ^ (30 * (i + 1 + 1)) := by
      rw [p30, Int.mul_comm]
      have := Int.mul_le_mul_of_nonneg_left (show P ≤ 1073741824 by omega) (Int.le_of_lt hm.2.1)
      omega
    have pm2 : P * mo < 2 ^ (bits + 30) := by
      rw [Int.pow_add, Int.mul_comm, show (2 : Int) ^ 30 = 1073741824 by decide]
      have := Int.mul_le_mul_of_nonneg_left (show P ≤ 1073741824 by omega) (Int.le_of_lt hm.2.1)
      omega
    refine (s_Re_eliminate (d := d + 2) ⟨P1, P2⟩ k1.1 hr (fun j hj => by rw [i1]; exact hE j hj) hN.ok).mono (fun x27 M26 q => ?_)
    obtain ⟨o26, f26, x01, el⟩ := q
    obtain ⟨n26, k26, v26, i26⟩ := k1.fir f26 o26 F1
    have N26 := hN.trans n26
    have m26 : Rm9 M26 e rows mo := ⟨by rw [v26 _ m7]; exact hm.1, hm.2.1, fun j hj => by rw [v26 _ (p j (by omega)).2]; exact hm.2.2 j hj⟩
    refine ⟨m_b32 x01, o26, fun _ => ih (i + 1) mo M26 (by omega) (by omega) N26 k26 (by rw [i26]; exact i1) m26 (Int.lt_of_lt_of_le hu (p30m (by omega))) hb', fun x0 => ⟨⟨by omega, by omega⟩, k26.1.1, ?_⟩⟩
    obtain ⟨w26, iv26, d26⟩ := el x0
    refine (s_Re_substitute (d := d + 4) ⟨P1, P2⟩ k26.1 hr w26 iv26 d26 o26).mono (fun M35 q => ?_)
    obtain ⟨o35, f35, rd35⟩ := q
    obtain ⟨n35, k35, v35, i35⟩ := k26.fir (f35.mono (fun _ u => Or.inr (Or.inr (Or.inr u)))) o35 N26.nf
    have N35 := N26.trans n35
    have m35 : Rm9 M35 e rows mo := ⟨by rw [v35 _ m7]; exact m26.1, hm.2.1, fun j hj => by rw [v35 _ (p j (by omega)).2]; exact m26.2.2 j hj⟩
    refine ⟨o35, ⟨by omega, by omega⟩, k35.1.1, (s_Re_combine (d := d) (u := i + 1) ⟨P1, P2⟩ hr o35 k35 N35.nf m35 hu (by omega) hW rd35).mono (fun M40 q => ?_)⟩
    obtain ⟨c40, k40, i40, m40⟩ := q
    exact ⟨c40.ok, ih (i + 1) (P * mo) M40 (by omega) (by omega) (N35.trans (k35.ncr c40 N35.nf (fun _ h => h))) k40 (by rw [i40, i35, i26]; exact i1) m40 pm1 pm2⟩
/-- a system is settled -/
theorem s_Re_settle (hr : rows ≤ 40) (hb : bits ≤ 1000) (hO : mOk M) (hF : NF L W M) (hK : RsK L M e) (hE : Ent9 M e (rows * 41)) (hW : ∀ x, Trs e x → 40 ≤ W x) : Cv G y_Re_settle (d + 5) [vr e, vi rows, vi bits] M (settQ L W e rows bits M) := by
  obtain ⟨⟨e0, ⟨-, -, -, -, -, -, r6⟩, -, -⟩, o, p, m7⟩ := id hK
  refine k_Re_settle hO ⟨by omega, by omega⟩ ⟨by omega, by omega⟩ ?_
  rw [r6]
  refine ⟨e0, hF.kd m7, (f_put0 (d := d + 4) ⟨by decide, by decide⟩ hO hF m7).mono (fun M3 q => ?_)⟩
  obtain ⟨c3, v3⟩ := q
  have k3 := (hK.nc c3 hF)
  refine ⟨c3.ok, ?_⟩
  suffices HH : ∀ (t i : Nat) (M1 : mM), rows + 1 ≤ i + t → i ≤ rows + 1 → NR L W e M M1 → RsK L M1 e → mI M1 (e + 1) = mI M (e + 1) → nv M1 (e + 7) = 1 → (∀ j, j < i → nv M1 (e + 9 + 2 * j) = 0) → h_Re_settle_10 G (d + 4) e rows bits i M1 (settQ L W e rows bits M) from
    HH (rows + 1) 0 M3 (by omega) (by omega) (hK.ncr c3 hF (fun t ht => Or.inl ht)) k3.1 (k3.2 1 (by decide)) v3 (fun j hj => absurd hj (by omega))
  intro t
  induction t with
  | zero =>
    intro i M1 h1 h2 hN k1 i1 v7 z
    refine k_Re_settle_10 hN.ok ⟨by omega, by omega⟩ ⟨by omega, by omega⟩ ⟨by omega, by omega⟩ ⟨fun _ => ?_, fun u => absurd (by omega) u⟩
    have b1 : (1 : Int) < 2 ^ (bits + 30) := by
      rw [Int.pow_add]
      have h1 : (0 : Int) < 2 ^ bits := Int.pow_pos (by decide)
      have h2 : (2 : Int) ^ 30 = 1073741824 := by decide
      omega
    exact s_se33 hr hb hF hE hW 36 0 1 M1 (by omega) (by omega) hN k1 i1 ⟨v7, by decide, fun j hj => by rw [z j (by omega)]; decide⟩ (by decide) b1
  | succ t ih =>
    intro i M1 h1 h2 hN k1 i1 v7 z
    by_cases ei : i = rows + 1
    · exact ih i M1 (by omega) h2 hN k1 i1 v7 z
    obtain ⟨⟨e0, ⟨-, r1, -⟩, ⟨-, k2, -⟩, ⟨-, n2, -⟩⟩, o, p, m7⟩ := id k1
    obtain ⟨pi, mi⟩ := p i (by omega)
    have F1 := hN.nf
    refine k_Re_settle_10 hN.ok ⟨by omega, by omega⟩ ⟨by omega, by omega⟩ ⟨by omega, by omega⟩ ⟨fun u => absurd u (by omega), fun _ => ?_⟩
    rw [r1, n2, Int.toNat_natCast, pi, show ((i : Int) + 1) = ((i + 1 : Nat) : Int) by omega]
    refine ⟨e0, k2, ⟨by omega, by omega⟩, F1.kd mi, (f_put0 (d := d + 4) ⟨by decide, by decide⟩ hN.ok F1 mi).mono (fun M12 q => ?_)⟩
    obtain ⟨c, v⟩ := q
    obtain ⟨k12, i12⟩ := k1.nc c F1
    refine ⟨c.ok, ih (i + 1) M12 (by omega) (by omega) (hN.trans (k1.ncr c F1 (fun t ht => Or.inr ⟨i, by omega, ht⟩))) k12 (by rw [i12 1 (by decide)]; exact i1) ((c.v F1 m7 (fun e => tr_n7 e.symm)).trans v7) (fun j hj => ?_)⟩
    by_cases cj : j = i
    · rw [cj]; exact v
    · rw [c.v F1 (p j (by omega)).2 (tr_ne cj)]; exact z j (by omega)
end NBM
end
section
/-! The class's Solver: its tables; which commands are left, which states are unknown. -/
section NBN
variable {G : mG} {d s g cn cc bc i k n c lo hi : Nat} {M M0 M' M1 M2 M3 : mM}
/-- the Solver's tables -/
def SoT (M : mM) (s g : Nat) : Prop := (mK M s = 8 ∧ g + 22 < s) ∧ (mR M s 0 = s + 1 ∧ mR M s 1 = s + 29 ∧ mR M s 2 = s + 30 ∧ mR M s 3 = g ∧ mR M s 4 = s + 31 ∧ mR M s 5 = s + 122 ∧ mR M s 6 = s + 123 ∧ mR M s 7 = s + 124 ∧ mR M s 8 = s + 125 ∧ mR M s 9 = s + 126 ∧ mR M s 11 = s + 127 ∧ mR M s 12 = s + 128 ∧ mR M s 13 = s + 129) ∧ (mK M (s + 29) = 30 ∧ mK M (s + 30) = 30 ∧ mK M (s + 122) = 30 ∧ mK M (s + 123) = 30 ∧ mK M (s + 124) = 30 ∧ mK M (s + 125) = 30 ∧ mK M (s + 126) = 30 ∧ mK M (s + 127) = 31 ∧ mK M (s + 128) = 30) ∧ (mN M (s + 29) = 512 ∧ mN M (s + 30) = 512 ∧ mN M (s + 122) = 512 ∧ mN M (s + 123) = 512 ∧ mN M (s + 124) = 512 ∧ mN M (s + 125) = 40 ∧ mN M (s + 126) = 40 ∧ mN M (s + 127) = 4097 ∧ mN M (s + 128) = 512)
theorem SoT.fi {S : Nat → Prop} (h : SoT M s g) (f : FI S M M') : SoT M' s g := by
  unfold SoT at h ⊢
  rw [f.1, f.2.1, f.2.2.1]
  exact h
theorem GK9.fi {S : Nat → Prop} (h : GK9 M g) (f : FI S M M') : GK9 M' g := by
  unfold GK9 at h ⊢
  rw [f.1, f.2.1, f.2.2.1]
  exact h
/-- the Solver's and the game's tables -/
def SG (M : mM) (s g cn cc bc : Nat) : Prop := mOk M ∧ SoT M s g ∧ GK9 M g ∧ (mR M g 3 = g + 3 ∧ mN M (g + 3) = 512) ∧ GTT M g cn cc bc
theorem SG.fi {S : Nat → Prop} (h : SG M s g cn cc bc) (f : FI S M M') (o : mOk M') (hS : ∀ i, i ≤ 9 → ¬ S (g + i)) : SG M' s g cn cc bc := by
  obtain ⟨h1, h2, h3, h4, h5⟩ := h
  exact ⟨o, h2.fi f, h3.fi f, by rw [f.2.1, f.2.2.1]; exact h4, h5.same (fun i hi => f.2.2.2.2.2.2 _ (hS i hi))⟩
/-- each state's commands that are left -/
def LHs (M : mM) (s cn cc : Nat) : Prop := ∀ k, k < cn → ∃ lo hi : Nat, mI M (s + 122) k = ((lo : Nat) : Int) ∧ mI M (s + 123) k = ((hi : Nat) : Int) ∧ lo ≤ hi ∧ hi ≤ cc
/-- the choices of a player that is kept -/
def Tld (M : mM) (g cn : Nat) (kp : Int) : Prop := kp ≠ 0 → ∀ k, k < cn → mI M (g + 2) k = kp → ∀ x y : Nat, mI M (g + 4) k = ((x : Nat) : Int) → mI M (g + 4) (k + 1) = ((y : Nat) : Int) → 0 ≤ mI M (g + 3) k ∧ mI M (g + 3) k < ((y : Nat) : Int) - ((x : Nat) : Int)
def LHx (M M' : mM) (s g n : Nat) : Prop := ∀ k, k < n → mI M' (s + 122) k = mI M (g + 4) k ∧ mI M' (s + 123) k = mI M (g + 4) (k + 1)
def S56 (s x : Nat) : Prop := x = s + 122 ∨ x = s + 123
theorem s_So_leaveCommands {kp : Int} (hkp : i32 kp) (h : SG M s g cn cc bc) (ht : Tld M g cn kp) : Cv G y_So_leaveCommands d [vr s, vi kp] M (fun M' => FI (S56 s) M M' ∧ SG M' s g cn cc bc ∧ LHs M' s cn cc ∧ (kp = 0 → LHx M M' s g cn)) := by
  refine k_So_leaveCommands h.1 hkp ?_
  have gs := h.2.1.1.2
  have nS : ∀ i, i ≤ 9 → ¬ S56 s (g + i) := fun i hi u => by unfold S56 at u; omega
  suffices HH : ∀ (t k : Nat) (M1 : mM), cn ≤ k + t → k ≤ cn → FI (S56 s) M M1 → SG M1 s g cn cc bc → LHs M1 s k cc → (kp = 0 → LHx M M1 s g k) → h_So_leaveCommands_2 G d s kp k M1 (fun M' => FI (S56 s) M M' ∧ SG M' s g cn cc bc ∧ LHs M' s cn cc ∧ (kp = 0 → LHx M M' s g cn)) from HH cn 0 M (by omega) (by omega) FI.refl h (fun k hk => absurd hk (by omega)) (fun _ k hk => absurd hk (by omega))
  intro t
  induction t with
  | zero =>
    intro k M1 h1 h2 F hg L X
    have ek : k = cn := by omega
    subst ek
    obtain ⟨o, ⟨⟨s0, -⟩, ⟨-, -, -, r3, -⟩, -⟩, hG, -, hT⟩ := id hg
    refine k_So_leaveCommands_2 o hkp ⟨by have := hT.1.1; omega, by have := hT.1.1; omega⟩ ?_
    rw [r3, hT.2.2.2]
    exact ⟨s0, hG.1, fun _ => ⟨F, hg, L, X⟩, fun u => absurd (Int.le_refl _) u⟩
  | succ t ih =>
    intro k M1 h1 h2 F hg L X
    by_cases ek : k = cn
    · exact ih k M1 (by omega) h2 F hg L X
    have hk : k < cn := by omega
    obtain ⟨o, ⟨⟨s0, -⟩, ⟨-, -, -, r3, -, r5, r6, -⟩, ⟨-, -, k5, k6, -⟩, ⟨-, -, n5, n6, -⟩⟩, ⟨g0, ⟨q2, q4, -⟩, gk, ⟨m2, m4, -⟩⟩, ⟨q3, m3⟩, hT⟩ := id hg
    obtain ⟨x, y, x1, y1, xy, yc⟩ := hT.2.2.1 k hk
    obtain ⟨hc1, hc2, hc3⟩ := hT.1
    have e2 : mI M1 (g + 2) = mI M (g + 2) := F.2.2.2.2.2.2 _ (nS 2 (by decide))
    have e3 : mI M1 (g + 3) = mI M (g + 3) := F.2.2.2.2.2.2 _ (nS 3 (by decide))
    have e4 : mI M1 (g + 4) = mI M (g + 4) := F.2.2.2.2.2.2 _ (nS 4 (by decide))
    refine k_So_leaveCommands_2 o hkp ⟨by omega, by omega⟩ ?_
    rw [r3, hT.2.2.2, q2, q4, q3, m2, m4, m3, r5, n5, Int.toNat_natCast, x1, show Int.toNat ((k : Int) + 1) = k + 1 by omega]
    refine ⟨s0, g0, fun u => absurd u (by omega), fun _ => ⟨fun _ => ⟨gk 2 (by decide) (by decide), ⟨by omega, by omega⟩⟩, fun v15 e15 => ⟨gk 4 (by decide) (by decide), ⟨by omega, by omega⟩, fun _ => ⟨gk 3 (by decide) (by decide), ⟨by omega, by omega⟩⟩, fun v25 e25 => ?_⟩⟩⟩
    have vb : (v15 = 0 ∧ v25 = 0) ∨ (v15 ≠ 0 ∧ 0 ≤ v25 ∧ v25 < ((y : Nat) : Int) - ((x : Nat) : Int)) := by
      by_cases c : (kp = 0) ∨ (¬ (mI M1 (g + 2) k = kp))
      · rw [if_pos c] at e15
        rw [e15, if_pos rfl] at e25
        exact Or.inl ⟨e15, e25⟩
      · rw [if_neg c] at e15
        rw [e15, if_neg (by decide)] at e25
        have k0 : kp ≠ 0 := fun u => c (Or.inl u)
        have k2 : mI M1 (g + 2) k = kp := Classical.byContradiction (fun u => c (Or.inr u))
        have := ht k0 k hk (by rw [← e2]; exact k2) x y (by rw [← e4]; exact x1) (by rw [← e4]; exact y1)
        rw [← e3, ← e25] at this
        exact Or.inr ⟨by rw [e15]; decide, this⟩
    obtain ⟨v, ev⟩ : ∃ v : Nat, v25 = ((v : Nat) : Int) := ⟨v25.toNat, by omega⟩
    subst ev
    refine ⟨k5, ⟨by omega, by omega⟩, ⟨by omega, by omega⟩, fun M31 e31 => ?_⟩
    have f31 : FI (fun z => z = s + 122) M1 M31 := by rw [e31]; exact FI.ui rfl
    have n4 : g + 4 ≠ s + 122 := by omega
    have l31 : mI M31 (s + 122) k = ((x + v : Nat) : Int) := by rw [mI_ui _ k e31, if_pos ⟨rfl, rfl⟩]; omega
    rw [f31.1, f31.2.1, f31.2.2.1, r3, r5, r6, q4, m4, n5, n6, l31, f31.2.2.2.2.2.2 (g + 4) n4, y1]
    refine ⟨⟨fun _ => ⟨g0, gk 4 (by decide) (by decide), ⟨by omega, by omega⟩⟩, fun _ => ⟨k5, ⟨by omega, by omega⟩⟩⟩, fun v39 e39 => ?_⟩
    obtain ⟨hi, eh, h1', h2'⟩ : ∃ hi : Nat, v39 = ((hi : Nat) : Int) ∧ x + v ≤ hi ∧ hi ≤ cc := by
      rcases vb with ⟨c0, c1⟩ | ⟨c0, c1, c2⟩
      · rw [if_pos c0] at e39
        exact ⟨y, e39, by omega, yc⟩
      · rw [if_neg c0] at e39
        exact ⟨x + v + 1, by rw [e39]; omega, by omega, by omega⟩
    refine ⟨k6, ⟨by omega, by omega⟩, ⟨by omega, by omega⟩, fun M45 e45 => ?_⟩
    have f45 : FI (fun z => z = s + 123) M31 M45 := by rw [e45]; exact FI.ui rfl
    have ff : FI (S56 s) M1 M45 := (f31.mono (fun _ u => Or.inl u)).trans (f45.mono (fun _ u => Or.inr u))
    have o45 : mOk M45 := by rw [e45]; exact mOk_UI (by rw [e31]; exact mOk_UI o ⟨by omega, by omega⟩) ⟨by omega, by omega⟩
    rw [show ((k : Int) + 1) = ((k + 1 : Nat) : Int) by omega]
    refine ih (k + 1) M45 (by omega) (by omega) (F.trans ff) (hg.fi ff o45 nS) (fun j hj => ?_) (fun k0 j hj => ?_)
    rotate_left
    · by_cases c : j = k
      · rw [c]
        rw [if_pos (Or.inl k0)] at e15
        have v0 : v = 0 := by
          rcases vb with y | y
          · omega
          · exact absurd e15 y.1
        rw [if_pos e15] at e39
        refine ⟨?_, ?_⟩
        · rw [f45.2.2.2.2.2.2 (s + 122) (show ¬ s + 122 = s + 123 by omega), l31, ← e4, x1, v0, Nat.add_zero]
        · rw [mI_ui _ k e45, if_pos ⟨rfl, rfl⟩, e39, ← e4, y1]
      · obtain ⟨a1, a2⟩ := X k0 j (by omega)
        exact ⟨by rw [f45.2.2.2.2.2.2 (s + 122) (show ¬ s + 122 = s + 123 by omega), mI_ui _ j e31, if_neg (fun u => c u.2)]; exact a1, by rw [mI_ui _ j e45, if_neg (fun u => c u.2), f31.2.2.2.2.2.2 (s + 123) (show ¬ s + 123 = s + 122 by omega)]; exact a2⟩
    by_cases c : j = k
    · rw [c]
      exact ⟨x + v, hi, by rw [f45.2.2.2.2.2.2 (s + 122) (show ¬ s + 122 = s + 123 by omega)]; exact l31, by rw [mI_ui _ k e45, if_pos ⟨rfl, rfl⟩]; exact eh, h1', h2'⟩
    · obtain ⟨l, h', a1, a2, a3⟩ := L j (by omega)
      exact ⟨l, h', by rw [f45.2.2.2.2.2.2 (s + 122) (show ¬ s + 122 = s + 123 by omega), mI_ui _ j e31, if_neg (fun u => c u.2)]; exact a1, by rw [mI_ui _ j e45, if_neg (fun u => c u.2), f31.2.2.2.2.2.2 (s + 123) (show ¬ s + 123 = s + 122 by omega)]; exact a2, a3⟩
/-- which unknown state a state is -/
def Slo (M : mM) (s un : Nat) : Prop := ∀ k, k < 512 → mI M (s + 124) k = -1 ∨ (0 ≤ mI M (s + 124) k ∧ mI M (s + 124) k < un)
end NBN
end
section
/-! The class's Solver: the unknown states, their weights. -/
section NBO
variable {G : mG} {d s g cn cc bc i k n c lo hi un : Nat} {M M0 M' M1 M2 M3 : mM}
/-- the unknown states -/
def Unk (M : mM) (s cn un : Nat) : Prop := mI M s 10 = ((un : Nat) : Int) ∧ un ≤ 40 ∧ Slo M s un ∧ ∀ i, i < un → ∃ k c lo hi : Nat, mI M (s + 125) i = ((k : Nat) : Int) ∧ k < cn ∧ mI M (s + 126) i = ((c : Nat) : Int) ∧ mI M (s + 122) k = ((lo : Nat) : Int) ∧ mI M (s + 123) k = ((hi : Nat) : Int) ∧ lo ≤ c ∧ c < hi
def Sun (s x : Nat) : Prop := x = s ∨ x = s + 124 ∨ x = s + 125 ∨ x = s + 126
theorem sun_g (h : SG M s g cn cc bc) : ∀ i, i ≤ 9 → ¬ Sun s (g + i) := fun i hi u => by
  have := h.2.1.1.2
  unfold Sun at u
  omega
end NBO
end
section
/-! The class's Solver: weights; numbers of ways. -/
section NBP
variable {G : mG} {d s g cn cc bc i k n c lo hi un : Nat} {M M0 M' M1 M2 M3 : mM}
def wsu (wt : Nat → Nat) : Nat → Nat
  | 0 => 0
  | n + 1 => wsu wt n + wt n
theorem wsu_cg {f h : Nat → Nat} : ∀ n, (∀ i, i < n → f i = h i) → wsu f n = wsu h n
  | 0, _ => rfl
  | n + 1, e => by
    show wsu f n + f n = wsu h n + h n
    rw [wsu_cg n (fun i hi => e i (by omega)), e n (by omega)]
theorem wsu_le {f h : Nat → Nat} : ∀ n, (∀ i, i < n → f i ≤ h i) → wsu f n ≤ wsu h n
  | 0, _ => Nat.le_refl _
  | n + 1, e => Nat.add_le_add (wsu_le n (fun i hi => e i (by omega))) (e n (by omega))
/-- every command that is left for the unknown state i has a multiple below 2^w -/
def wtO (M : mM) (s g i w : Nat) : Prop := ∀ k lo hi c : Nat, mI M (s + 125) i = ((k : Nat) : Int) → mI M (s + 122) k = ((lo : Nat) : Int) → mI M (s + 123) k = ((hi : Nat) : Int) → lo ≤ c → c < hi → mI M (g + 6) c < 2 ^ w
theorem s_nlz0 (hO : mOk M) : Ci G y_JI_nlz d [vi 0] M (fun r M' => M' = M ∧ r = 32) := k_JI_nlz hO ⟨by decide, by decide⟩ ⟨fun u => absurd u (by decide), fun _ v41 e41 => ⟨rfl, by rw [e41, if_pos rfl]⟩⟩
end NBP
end
section
/-! The class's Solver: comesOn and wayFrom exactly. -/
section NBX
variable {G : mG} {d s g cn cc bc i k n c lo hi un : Nat} {M M0 M' M1 M2 M3 : mM}
/-- a state is marked, or a target -/
def jmk (M : mM) (s g j : Nat) : Prop := mI M (s + 124) j ≠ -1 ∨ mI M (g + 2) j = 3
/-- a command has a branch to one -/
def ldC (M : mM) (s g c : Nat) : Prop := ∃ i : Nat, mI M (g + 7) c ≤ i ∧ (i : Int) < mI M (g + 7) (c + 1) ∧ jmk M s g (mI M (g + 8) i).toNat
theorem x_So_comesOn (h : SG M s g cn cc bc) (hc : c < cc) : Ci G y_So_comesOn d [vr s, vi c] M (fun r M' => M' = M ∧ (r = 0 ∨ r = 1) ∧ (r = 1 ↔ ldC M s g c)) := by
  obtain ⟨o, ⟨⟨s0, -⟩, ⟨-, -, -, r3, -, -, -, r7, -⟩, ⟨-, -, -, -, k7, -⟩, ⟨-, -, -, -, n7, -⟩⟩, ⟨g0, ⟨q2, -, -, q7, q8, -⟩, gk, ⟨m2, -, -, m7, m8, -⟩⟩, -, hT⟩ := id h
  obtain ⟨hc1, hc2, hc3⟩ := hT.1
  obtain ⟨x, y, mu, e1, e2, ⟨xy, -⟩, yb, br, -⟩ := hT.2.1 c hc
  have no : ∀ j : Nat, y ≤ j → (∀ i : Nat, x ≤ i → i < j → ¬ jmk M s g (mI M (g + 8) i).toNat) → ¬ ldC M s g c := fun j hj hn u => by
    obtain ⟨i, u1, u2, u3⟩ := u
    rw [e1] at u1
    rw [e2] at u2
    exact hn i (by omega) (by omega) u3
  refine k_So_comesOn o ⟨by omega, by omega⟩ ?_
  rw [r3, q7, m7, Int.toNat_natCast, e1]
  refine ⟨s0, g0, gk 7 (by decide) (by decide), ⟨by omega, by omega⟩, ?_⟩
  suffices HH : ∀ (t i : Nat), y ≤ i + t → x ≤ i → i ≤ y → (∀ i' : Nat, x ≤ i' → i' < i → ¬ jmk M s g (mI M (g + 8) i').toNat) → h_So_comesOn_10 G d s c i M (fun r M' => M' = M ∧ (r = 0 ∨ r = 1) ∧ (r = 1 ↔ ldC M s g c)) from HH (y - x) x (by omega) (Nat.le_refl _) (by omega) (fun i' a b => absurd b (by omega))
  intro t
  induction t with
  | zero =>
    intro i h1 h2 h3 hn
    refine k_So_comesOn_10 o ⟨by omega, by omega⟩ ⟨by omega, by omega⟩ ?_
    rw [r3, q7, m7, show Int.toNat ((c : Int) + 1) = c + 1 by omega, e2]
    exact ⟨s0, g0, gk 7 (by decide) (by decide), ⟨by omega, by omega⟩, fun _ => ⟨rfl, Or.inl rfl, fun z => absurd z (by decide), fun z => absurd z (no i (by omega) hn)⟩, fun u => absurd (by omega) u⟩
  | succ t ih =>
    intro i h1 h2 h3 hn
    refine k_So_comesOn_10 o ⟨by omega, by omega⟩ ⟨by omega, by omega⟩ ?_
    rw [r3, q7, m7, show Int.toNat ((c : Int) + 1) = c + 1 by omega, e2]
    refine ⟨s0, g0, gk 7 (by decide) (by decide), ⟨by omega, by omega⟩, fun z => ⟨rfl, Or.inl rfl, fun z => absurd z (by decide), fun w => absurd w (no i (by omega) hn)⟩, fun u => ?_⟩
    obtain ⟨b1, b2, b3⟩ := br i h2 (by omega)
    rw [q8, m8, r7, n7, q2, m2, Int.toNat_natCast, show ((i : Int) + 1) = ((i + 1 : Nat) : Int) by omega]
    refine ⟨gk 8 (by decide) (by decide), ⟨by omega, by omega⟩, k7, ⟨by omega, by omega⟩, fun _ => ⟨gk 2 (by decide) (by decide), ⟨by omega, by omega⟩⟩, fun z => ⟨rfl, Or.inr rfl, fun _ => ⟨i, by rw [e1]; omega, by rw [e2]; omega, z⟩, fun _ => rfl⟩, fun z => ih (i + 1) (by omega) (by omega) (by omega) (fun i' a b => ?_)⟩
    by_cases c9 : i' = i
    · rw [c9]
      exact z
    · exact hn i' a (by omega)
/-- whether a state comes on: its commands from lo to hi -/
def coC (M : mM) (s g k lo hi : Nat) : Prop := (mI M (g + 2) k = 1 ∧ ∃ c : Nat, lo ≤ c ∧ c < hi ∧ ldC M s g c) ∨ (mI M (g + 2) k ≠ 1 ∧ lo < hi ∧ ∀ c : Nat, lo ≤ c → c < hi → ldC M s g c)
def wayX (M : mM) (s g k : Nat) (x : Int) (M' : mM) : Prop := M' = M ∧ ∃ lo hi : Nat, (mI M (s + 122) k = ((lo : Nat) : Int) ∧ mI M (s + 123) k = ((hi : Nat) : Int)) ∧ ((x = -1 ∧ ¬ coC M s g k lo hi) ∨ (coC M s g k lo hi ∧ ∃ c : Nat, x = ((c : Nat) : Int) ∧ lo ≤ c ∧ c < hi))
theorem x_So_wayFrom (h : SG M s g cn cc bc) (hL : LHs M s cn cc) (hk : k < cn) : Ci G y_So_wayFrom (d + 1) [vr s, vi k] M (wayX M s g k) := by
  obtain ⟨o, ⟨⟨s0, -⟩, ⟨-, -, -, r3, -, r5, r6, -⟩, ⟨-, -, k5, k6, -⟩, ⟨-, -, n5, n6, -⟩⟩, ⟨g0, ⟨q2, -⟩, gk, ⟨m2, -⟩⟩, -, hT⟩ := id h
  obtain ⟨hc1, hc2, hc3⟩ := hT.1
  obtain ⟨lo, hi, e1, e2, lh, hb⟩ := hL k hk
  refine k_So_wayFrom o ⟨by omega, by omega⟩ ?_
  rw [r3, q2, m2, r5, n5, Int.toNat_natCast, e1]
  refine ⟨s0, g0, gk 2 (by decide) (by decide), ⟨by omega, by omega⟩, fun v6 e6 => ⟨k5, ⟨by omega, by omega⟩, ?_⟩⟩
  have v01 : (v6 = 1 ∧ mI M (g + 2) k = 1) ∨ (v6 = 0 ∧ mI M (g + 2) k ≠ 1) := by
    by_cases z : mI M (g + 2) k = 1
    · rw [if_pos z] at e6
      exact Or.inl ⟨e6, z⟩
    · rw [if_neg z] at e6
      exact Or.inr ⟨e6, z⟩
  have vb : v6 = 0 ∨ v6 = 1 := by omega
  clear e6
  suffices HH : ∀ (t c : Nat), hi ≤ c + t → lo ≤ c → c ≤ hi → (∀ c' : Nat, lo ≤ c' → c' < c → (v6 = 1 → ¬ ldC M s g c') ∧ (v6 = 0 → ldC M s g c')) → h_So_wayFrom_26 G d s k v6 c M (wayX M s g k) from HH (hi - lo) lo (by omega) (Nat.le_refl _) lh (fun c' a b => absurd b (by omega))
  have fin : ∀ c : Nat, hi ≤ c → (∀ c' : Nat, lo ≤ c' → c' < c → (v6 = 1 → ¬ ldC M s g c') ∧ (v6 = 0 → ldC M s g c')) → ∀ v31 : Int, v31 = (if ((¬ (v6 = 0)) ∨ ((lo : Int) = (hi : Int))) then (-1) else ((lo : Nat) : Int)) → wayX M s g k v31 M := fun c hc hn v31 e31 => by
    refine ⟨rfl, lo, hi, ⟨e1, e2⟩, ?_⟩
    rcases v01 with ⟨v1, z⟩ | ⟨v1, z⟩
    · rw [if_pos (Or.inl (by omega))] at e31
      refine Or.inl ⟨e31, fun u => ?_⟩
      rcases u with ⟨-, c', u1, u2, u3⟩ | ⟨u1, -⟩
      · exact (hn c' u1 (by omega)).1 v1 u3
      · exact u1 z
    · by_cases w : lo = hi
      · rw [if_pos (Or.inr (by omega))] at e31
        refine Or.inl ⟨e31, fun u => ?_⟩
        rcases u with ⟨u1, -⟩ | ⟨-, u1, -⟩
        · exact z u1
        · omega
      · rw [if_neg (by omega)] at e31
        exact Or.inr ⟨Or.inr ⟨z, by omega, fun c' a b => (hn c' a (by omega)).2 v1⟩, lo, e31, Nat.le_refl _, by omega⟩
  intro t
  induction t with
  | zero =>
    intro c h1 h2 h3 hn
    refine k_So_wayFrom_26 o ⟨by omega, by omega⟩ (m_b32 vb) ⟨by omega, by omega⟩ ?_
    rw [r6, n6, r5, n5, Int.toNat_natCast, e2, e1]
    exact ⟨s0, k6, ⟨by omega, by omega⟩, fun _ => ⟨fun _ => ⟨k5, ⟨by omega, by omega⟩, ⟨by omega, by omega⟩, fun _ => ⟨by omega, by omega⟩⟩, fin c (by omega) hn⟩, fun u => absurd (by omega) u⟩
  | succ t ih =>
    intro c h1 h2 h3 hn
    refine k_So_wayFrom_26 o ⟨by omega, by omega⟩ (m_b32 vb) ⟨by omega, by omega⟩ ?_
    rw [r6, n6, r5, n5, Int.toNat_natCast, e2, e1]
    refine ⟨s0, k6, ⟨by omega, by omega⟩, fun z => ⟨fun _ => ⟨k5, ⟨by omega, by omega⟩, ⟨by omega, by omega⟩, fun _ => ⟨by omega, by omega⟩⟩, fin c (by omega) hn⟩, fun u => (x_So_comesOn (d := d) h (show c < cc by omega)).mono (fun x M' q => ?_)⟩
    obtain ⟨e, x01, xi⟩ := q
    rw [e]
    refine ⟨m_b32 x01, o, fun xe v45 e45 => ⟨rfl, lo, hi, ⟨e1, e2⟩, ?_⟩, fun xe => ?_⟩
    · rcases v01 with ⟨v1, z⟩ | ⟨v1, z⟩
      · rw [if_neg (by omega)] at e45
        exact Or.inr ⟨Or.inl ⟨z, c, h2, by omega, xi.mp (by omega)⟩, c, e45, h2, by omega⟩
      · rw [if_pos v1] at e45
        refine Or.inl ⟨e45, fun w => ?_⟩
        rcases w with ⟨w1, -⟩ | ⟨-, -, w1⟩
        · exact z w1
        · have := xi.mpr (w1 c h2 (by omega))
          omega
    · rw [show ((c : Int) + 1) = ((c + 1 : Nat) : Int) by omega]
      refine ih (c + 1) (by omega) (by omega) (by omega) (fun c' a b => ?_)
      by_cases c9 : c' = c
      · rw [c9]
        refine ⟨fun v1 w => ?_, fun v1 => xi.mp (by omega)⟩
        have := xi.mpr w
        omega
      · exact hn c' a (by omega)
end NBX
end
