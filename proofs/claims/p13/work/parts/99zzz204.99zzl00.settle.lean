/-! The Residues: systems settled. -/
section NBM
variable {G : mG} {d e z n m i k rows B u bits x : Nat} {M M0 M' M1 M2 M3 : mM} {P a b y X Y : Int} {L : List Nat} {W : Nat → Nat}
/-- what the Residues may change -/
def NR (L : List Nat) (W : Nat → Nat) (e : Nat) (M M' : mM) : Prop := (mOk M' ∧ NF L W M') ∧ FA (fun x => nsS M (Trs e) x ∨ S36 e x) (Trs e) M M' ∧ (∀ t, Trs e t → mR M' t 0 = mR M t 0 ∨ mZ M ≤ mR M' t 0) ∧ RmN L M M'
theorem NR.ok (h : NR L W e M M') : mOk M' := h.1.1
theorem NR.nf (h : NR L W e M M') : NF L W M' := h.1.2
theorem NR.refl (hO : mOk M) (hF : NF L W M) : NR L W e M M := ⟨⟨hO, hF⟩, FA.refl, fun _ _ => Or.inl rfl, RmN.refl⟩
theorem NR.trans (h : NR L W e M M1) (k : NR L W e M1 M2) : NR L W e M M2 := by
  obtain ⟨-, h3, h4, h5⟩ := h
  obtain ⟨k1, k3, k4, k5⟩ := k
  refine ⟨k1, h3.trans2 k3 ?_ (fun _ _ y => y), fun t ht => ?_, h5.trans k5⟩
  · intro x hx u
    rcases u with (u | ⟨t, ht, u⟩) | u
    · exact Or.inl (Or.inl u)
    · rcases h4 t ht with q | q
      · exact Or.inl (Or.inr ⟨t, ht, by rw [u, q]⟩)
      · omega
    · exact Or.inr u
  · rcases k4 t ht with q | q
    · rw [q]; exact h4 t ht
    · exact Or.inr (Nat.le_trans h3.1.1 q)
theorem RsK.ncr {T : Nat → Prop} (h : RsK L M e) (k : NC L W T M M') (hF : NF L W M) (hT : ∀ t, T t → Trs e t) : NR L W e M M' := by
  have k' := k.mono hT h.tl hF
  exact ⟨k'.1, k'.2.2.1.mono (fun x _ u => Or.inl u) (fun _ _ u => u), k'.2.2.2.1, k'.2.2.2.2⟩
theorem RsK.s36 (h : RsK L M e) : ∀ x, S36 e x → Oc L M x := fun x u => by
  rcases u with u | u | u | u
  · rw [u]; exact h.2.1 3 (by decide)
  · rw [u]; exact h.2.1 4 (by decide)
  · rw [u]; exact h.2.1 5 (by decide)
  · rw [u]; exact h.2.1 6 (by decide)
/-- the residues' tables change -/
theorem RsK.fir (h : RsK L M e) (f : FI (S36 e) M M') (o : mOk M') (hF : NF L W M) : NR L W e M M' ∧ RsK L M' e ∧ (∀ a, a ∈ L → nv M' a = nv M a) ∧ mI M' (e + 1) = mI M (e + 1) := by
  have oc := h.s36
  have nt' : ∀ a, a ∈ L → Nt M' a (mR M a 0) (cp M a) (sz M a) := fun a ha => (hF.nt ha).fi f (fun u => (oc a u).2.1 ha) (fun u => (oc _ u).2.2 a ha rfl)
  have cc : ∀ a, cp M' a = cp M a := fun a => by unfold cp; rw [f.2.2.1, f.2.1]
  have nf : NF L W M' := ⟨hF.1, fun a ha => ⟨(nt' a ha).nn, by rw [cc]; exact (hF.2.1 a ha).2.1, (hF.2.1 a ha).2.2⟩, fun a b ha hb u => hF.2.2 a b ha hb (by rw [← f.2.2.1]; exact u)⟩
  refine ⟨⟨⟨o, nf⟩, f.fa.mono (fun x _ u => Or.inr u) (fun _ _ u => u), fun t _ => Or.inl (by rw [f.2.2.1]), ?_⟩, ⟨h.1.fi f, fun i hi => ⟨by rw [f.2.2.2.2.1]; exact (h.2.1 i hi).1, (h.2.1 i hi).2.1, fun a ha u => (h.2.1 i hi).2.2 a ha (by rw [← f.2.2.1]; exact u)⟩, fun i hi => by rw [f.2.2.1]; exact h.2.2.1 i hi, h.2.2.2⟩, fun a ha => ?_, f.2.2.2.2.2.2 (e + 1) (fun u => by unfold S36 at u; omega)⟩
  · unfold RmN
    rw [show cp M' = cp M from funext cc, f.2.2.2.2.1, f.2.2.2.2.2.1]
    exact ⟨Nat.le_refl _, Nat.le_refl _⟩
  · rw [(nt' a ha).nv]
    unfold nv
    rw [f.2.2.2.2.2.2 _ (fun u => (oc _ u).2.2 a ha rfl)]
theorem tr_ne {i j : Nat} (h : i ≠ j) : e + 9 + 2 * i ≠ e + 9 + 2 * j := by omega
theorem tr_n7 : e + 9 + 2 * i ≠ e + 7 := by omega
/-- small numbers, all below the modulus -/
def Rm9 (M : mM) (e rows : Nat) (mo : Int) : Prop := nv M (e + 7) = mo ∧ 0 < mo ∧ ∀ i, i ≤ rows → nv M (e + 9 + 2 * i) < mo
theorem s_cm17 {inv mo : Int} (hP : 1000000000 < P ∧ P < 1073741824) (hr : rows ≤ 40) (hK : RsK L M e) (hF : NF L W M) (hm : Rm9 M e rows mo) (hu : mo < 2 ^ (30 * u)) (u38 : u ≤ 38) (hW : ∀ x, Trs e x → 40 ≤ W x) (hrd : Rd9 M e P 0 rows) (hi : 0 ≤ inv ∧ inv ≤ P) : ∀ (t i : Nat) (M1 : mM), rows + 1 ≤ i + t → i ≤ rows + 1 → NC L W (Trs e) M M1 → RsK L M1 e → Rd9 M1 e P 0 rows → nv M1 (e + 7) = mo → (∀ j, j < i → nv M1 (e + 9 + 2 * j) < P * mo) → (∀ j, i ≤ j → j ≤ rows → nv M1 (e + 9 + 2 * j) < mo) → h_Re_combine_17 G (d + 3) e rows P inv i M1 (fun M' => NC L W (Trs e) M M' ∧ RsK L M' e ∧ mI M' (e + 1) = mI M (e + 1) ∧ Rm9 M' e rows (P * mo)) := by
  have e1' : ∀ {M1 : mM}, NC L W (Trs e) M M1 → mI M1 (e + 1) = mI M (e + 1) := fun k => (hK.nc k hF).2 1 (by decide)
  have fin : ∀ (i : Nat) (M1 : mM), i = rows + 1 → NC L W (Trs e) M M1 → RsK L M1 e → nv M1 (e + 7) = mo → (∀ j, j < i → nv M1 (e + 9 + 2 * j) < P * mo) → mK M1 e = 12 ∧ mK M1 (mR M1 e 6) = 10 ∧ Cv G y_Na_multiply (d + 3) [vr (mR M1 e 6), vi P] M1 (fun M13 => mOk M13 ∧ (NC L W (Trs e) M M13 ∧ RsK L M13 e ∧ mI M13 (e + 1) = mI M (e + 1) ∧ Rm9 M13 e rows (P * mo))) := by
    intro i M1 ei hN k1 v7 dn'
    obtain ⟨⟨e0, ⟨-, -, -, -, -, -, r6⟩, -, -⟩, o, p, m7⟩ := id k1
    have F1 := hN.nf
    have s7 := F1.szv m7 (show nv M1 (e + 7) < 2 ^ (30 * u) by rw [v7]; exact hu)
    rw [r6]
    refine ⟨e0, F1.kd m7, (f_multiply (d := d + 1) ⟨by omega, hP.2⟩ hN.ok F1 m7 (by have := hW (e + 7) (Or.inl rfl); omega)).mono (fun M13 q => ?_)⟩
    obtain ⟨c, v⟩ := q
    have c' := c.mono (T' := Trs e) (fun t ht => Or.inl ht) k1.tl F1
    have N2 := hN.trans c'
    rw [v7] at v
    exact ⟨c.ok, N2, (k1.nc c F1).1, e1' N2, v, Int.mul_pos (by omega) hm.2.1, fun j hj => by rw [c.v F1 (p j (by omega)).2 tr_n7]; exact dn' j (by omega)⟩
  intro t
  induction t with
  | zero =>
    intro i M1 h1 h2 hN k1 rd v7 dn' up
    exact k_Re_combine_17 hN.ok ⟨by omega, by omega⟩ ⟨by omega, by omega⟩ ⟨by omega, by omega⟩ ⟨by omega, by omega⟩ ⟨fun _ => fin i M1 (by omega) hN k1 v7 dn', fun u => absurd (by omega) u⟩
  | succ t ih =>
    intro i M1 h1 h2 hN k1 rd v7 dn' up
    by_cases ei : i = rows + 1
    · exact ih i M1 (by omega) h2 hN k1 rd v7 dn' up
    obtain ⟨⟨e0, ⟨-, r1, -, -, -, r5, r6⟩, ⟨-, k2, -, -, -, k6⟩, ⟨-, n2, -, -, -, n6⟩⟩, o, p, m7⟩ := id k1
    have F1 := hN.nf
    obtain ⟨pi, mi⟩ := p i (by omega)
    have ri := rd i (by omega) (by omega)
    have vi0 := up i (Nat.le_refl _) (by omega)
    have s7 := F1.szv m7 (show nv M1 (e + 7) < 2 ^ (30 * u) by rw [v7]; exact hu)
    have si := F1.szv mi (Int.lt_trans vi0 hu)
    have wi := hW _ (Or.inr ⟨i, by omega, rfl⟩)
    refine k_Re_combine_17 hN.ok ⟨by omega, by omega⟩ ⟨by omega, by omega⟩ ⟨by omega, by omega⟩ ⟨by omega, by omega⟩ ⟨fun u => absurd u (by omega), fun _ => ?_⟩
    rw [r5, r1, n6, n2, Int.toNat_natCast, pi]
    refine ⟨e0, k6, ⟨by omega, by omega⟩, k2, ⟨by omega, by omega⟩, F1.kd mi, (s_Na_modulo (d := d + 3) ⟨by omega, hP.2⟩ hN.ok (F1.nt mi)).mono (fun x23 M22 q => ?_)⟩
    obtain ⟨e22, x0, x1⟩ := q
    rw [e22, r1, n2, pi, r6]
    have q0 : 0 ≤ mI M1 (e + 6) i + P - x23 := by omega
    obtain ⟨t1, t2, t3⟩ := tm_b (P := P) q0 (by omega)
    rw [t1]
    obtain ⟨p1, p2⟩ := pr_b hP.2 ⟨t2, Int.le_of_lt t3⟩ hi ⟨Int.le_refl 0, by omega⟩
    rw [Int.zero_add] at p1 p2
    obtain ⟨t4, t5, t6⟩ := tm_b (P := P) p1 (by omega)
    rw [t4]
    refine ⟨⟨by omega, by omega⟩, hN.ok, e0, k2, ⟨by omega, by omega⟩, ⟨by omega, by omega⟩, by omega, p2, by omega, F1.kd mi, (f_add (d := d) ⟨t5, by omega⟩ hN.ok F1 mi m7 tr_n7 (by omega) (by omega)).mono (fun M33 q => ?_)⟩
    obtain ⟨c, v⟩ := q
    have c' := c.mono (T' := Trs e) (fun t ht => Or.inr ⟨i, by omega, ht⟩) k1.tl F1
    obtain ⟨k33, i33⟩ := k1.nc c F1
    rw [show ((i : Int) + 1) = ((i + 1 : Nat) : Int) by omega]
    have v7' := (c.v F1 m7 (fun e => tr_n7 e.symm)).trans v7
    refine ⟨c.ok, ih (i + 1) M33 (by omega) (by omega) (hN.trans c') k33 (fun j h1 h2 => by rw [i33 6 (by decide)]; exact rd j h1 h2) v7' (fun j hj => ?_) (fun j hj1 hj2 => by rw [c.v F1 (p j (by omega)).2 (tr_ne (by omega))]; exact up j (by omega) hj2)⟩
    by_cases cj : j = i
    · rw [cj, v, v7]
      have := Int.mul_le_mul_of_nonneg_right (show (mI M1 (e + 6) i + P - x23) % P * inv % P + 1 ≤ P by omega) (Int.le_of_lt hm.2.1)
      rw [Int.add_mul, Int.one_mul] at this
      omega
    · rw [c.v F1 (p j (by omega)).2 (tr_ne cj)]
      exact dn' j (by omega)
theorem s_Re_combine {mo : Int} (hP : 1000000000 < P ∧ P < 1073741824) (hr : rows ≤ 40) (hO : mOk M) (hK : RsK L M e) (hF : NF L W M) (hm : Rm9 M e rows mo) (hu : mo < 2 ^ (30 * u)) (u38 : u ≤ 38) (hW : ∀ x, Trs e x → 40 ≤ W x) (hrd : Rd9 M e P 0 rows) : Cv G y_Re_combine (d + 4) [vr e, vi rows, vi P] M (fun M' => NC L W (Trs e) M M' ∧ RsK L M' e ∧ mI M' (e + 1) = mI M (e + 1) ∧ Rm9 M' e rows (P * mo)) := by
  obtain ⟨⟨e0, ⟨-, -, -, -, -, -, r6⟩, -, -⟩, o, p, m7⟩ := id hK
  refine k_Re_combine hO ⟨by omega, by omega⟩ ⟨by omega, by omega⟩ ?_
  rw [r6]
  refine ⟨e0, hF.kd m7, (s_Na_modulo (d := d + 3) ⟨by omega, hP.2⟩ hO (hF.nt m7)).mono (fun x4 M3 q => ?_)⟩
  obtain ⟨e3, x0, x1⟩ := q
  rw [e3]
  refine ⟨⟨by omega, by omega⟩, hO, (s_Re_inverse (d := d + 3) ⟨x0, Int.le_of_lt x1⟩ ⟨by omega, hP.2⟩ hO).mono (fun x7 M6 q => ?_)⟩
  obtain ⟨e6, y0, y1⟩ := q
  rw [e6]
  exact ⟨⟨by omega, by omega⟩, hO, s_cm17 hP hr hK hF hm hu u38 hW hrd ⟨y0, y1⟩ (rows + 1) 0 M (by omega) (by omega) (NC.refl hO hF hK.tl) hK hrd hm.1 (fun j hj => absurd hj (by omega)) (fun j _ hj => hm.2.2 j hj)⟩
theorem prL_b : ∀ i, i < 36 → 1000000000 < prL.getD i 0 ∧ prL.getD i 0 < 1073741824 := by decide
/-- what settling leaves behind -/
def settQ (L : List Nat) (W : Nat → Nat) (e rows bits : Nat) (M M' : mM) : Prop := NR L W e M M' ∧ RsK L M' e ∧ ∀ i, i ≤ rows → nv M' (e + 9 + 2 * i) < 2 ^ (bits + 30)
theorem s_se33 (hr : rows ≤ 40) (hb : bits ≤ 1000) (hF0 : NF L W M) (hE : Ent9 M e (rows * 41)) (hW : ∀ x, Trs e x → 40 ≤ W x) : ∀ (t i : Nat) (mo : Int) (M1 : mM), 36 ≤ i + t → i ≤ 36 → NR L W e M M1 → RsK L M1 e → mI M1 (e + 1) = mI M (e + 1) → Rm9 M1 e rows mo → mo < 2 ^ (30 * (i + 1)) → mo < 2 ^ (bits + 30) → h_Re_settle_33 G (d + 4) e rows bits i M1 (settQ L W e rows bits M) := by
  intro t
  induction t with
  | zero =>
    intro i mo M1 h1 h2 hN k1 i1 hm hu hb'
    exact k_Re_settle_33 hN.ok ⟨by omega, by omega⟩ ⟨by omega, by omega⟩ ⟨by omega, by omega⟩ ⟨fun _ => ⟨hN, k1, fun j hj => Int.lt_trans (hm.2.2 j hj) hb'⟩, fun u => absurd (by omega) u⟩
  | succ t ih =>
    intro i mo M1 h1 h2 hN k1 i1 hm hu hb'
    have done : settQ L W e rows bits M M1 := ⟨hN, k1, fun j hj => Int.lt_trans (hm.2.2 j hj) hb'⟩
    refine k_Re_settle_33 hN.ok ⟨by omega, by omega⟩ ⟨by omega, by omega⟩ ⟨by omega, by omega⟩ ⟨fun _ => done, fun u => ?_⟩
    have F1 := hN.nf
    obtain ⟨⟨e0, ⟨-, -, -, -, -, -, r6⟩, -, -⟩, o, p, m7⟩ := id k1
    have cb := F1.cb m7
    have sc := F1.sc m7
    rw [r6, Int.toNat_natCast, show ((i : Int) + 1) = ((i + 1 : Nat) : Int) by omega]
    refine ⟨e0, F1.kd m7, (s_Na_bits (d := d + 3) hN.ok (F1.nt m7)).mono (fun x20 M19 q => ?_)⟩
    obtain ⟨e19, nb, en, n1, n2, -⟩ := q
    have n2' : nv M1 (e + 7) < 2 ^ nb := n2
    rw [hm.1] at n2'
    rw [e19]
    refine ⟨⟨by omega, by omega⟩, hN.ok, fun _ => done, fun nl => ⟨⟨by omega, by omega⟩, e0, ?_⟩⟩
    obtain ⟨P1, P2⟩ := prL_b i (by omega)
    generalize prL.getD i 0 = P at *
    have mb : mo < 2 ^ bits := Int.lt_of_lt_of_le n2' (p2m (by omega))
    have pm1 : P * mo < 2 ^ (30 * (i + 1 + 1)) := by
      rw [p30, Int.mul_comm]
      have := Int.mul_le_mul_of_nonneg_left (show P ≤ 1073741824 by omega) (Int.le_of_lt hm.2.1)
      omega
    have pm2 : P * mo < 2 ^ (bits + 30) := by
      rw [Int.pow_add, Int.mul_comm, show (2 : Int) ^ 30 = 1073741824 by decide]
      have := Int.mul_le_mul_of_nonneg_left (show P ≤ 1073741824 by omega) (Int.le_of_lt hm.2.1)
      omega
    refine (s_Re_eliminate (d := d + 2) ⟨P1, P2⟩ k1.1 hr (fun j hj => by rw [i1]; exact hE j hj) hN.ok).mono (fun x27 M26 q => ?_)
    obtain ⟨o26, f26, x01, el⟩ := q
    obtain ⟨n26, k26, v26, i26⟩ := k1.fir f26 o26 F1
    have N26 := hN.trans n26
    have m26 : Rm9 M26 e rows mo := ⟨by rw [v26 _ m7]; exact hm.1, hm.2.1, fun j hj => by rw [v26 _ (p j (by omega)).2]; exact hm.2.2 j hj⟩
    refine ⟨m_b32 x01, o26, fun _ => ih (i + 1) mo M26 (by omega) (by omega) N26 k26 (by rw [i26]; exact i1) m26 (Int.lt_of_lt_of_le hu (p30m (by omega))) hb', fun x0 => ⟨⟨by omega, by omega⟩, k26.1.1, ?_⟩⟩
    obtain ⟨w26, iv26, d26⟩ := el x0
    refine (s_Re_substitute (d := d + 4) ⟨P1, P2⟩ k26.1 hr w26 iv26 d26 o26).mono (fun M35 q => ?_)
    obtain ⟨o35, f35, rd35⟩ := q
    obtain ⟨n35, k35, v35, i35⟩ := k26.fir (f35.mono (fun _ u => Or.inr (Or.inr (Or.inr u)))) o35 N26.nf
    have N35 := N26.trans n35
    have m35 : Rm9 M35 e rows mo := ⟨by rw [v35 _ m7]; exact m26.1, hm.2.1, fun j hj => by rw [v35 _ (p j (by omega)).2]; exact m26.2.2 j hj⟩
    refine ⟨o35, ⟨by omega, by omega⟩, k35.1.1, (s_Re_combine (d := d) (u := i + 1) ⟨P1, P2⟩ hr o35 k35 N35.nf m35 hu (by omega) hW rd35).mono (fun M40 q => ?_)⟩
    obtain ⟨c40, k40, i40, m40⟩ := q
    exact ⟨c40.ok, ih (i + 1) (P * mo) M40 (by omega) (by omega) (N35.trans (k35.ncr c40 N35.nf (fun _ h => h))) k40 (by rw [i40, i35, i26]; exact i1) m40 pm1 pm2⟩
/-- a system is settled -/
theorem s_Re_settle (hr : rows ≤ 40) (hb : bits ≤ 1000) (hO : mOk M) (hF : NF L W M) (hK : RsK L M e) (hE : Ent9 M e (rows * 41)) (hW : ∀ x, Trs e x → 40 ≤ W x) : Cv G y_Re_settle (d + 5) [vr e, vi rows, vi bits] M (settQ L W e rows bits M) := by
  obtain ⟨⟨e0, ⟨-, -, -, -, -, -, r6⟩, -, -⟩, o, p, m7⟩ := id hK
  refine k_Re_settle hO ⟨by omega, by omega⟩ ⟨by omega, by omega⟩ ?_
  rw [r6]
  refine ⟨e0, hF.kd m7, (f_put0 (d := d + 4) ⟨by decide, by decide⟩ hO hF m7).mono (fun M3 q => ?_)⟩
  obtain ⟨c3, v3⟩ := q
  have k3 := (hK.nc c3 hF)
  refine ⟨c3.ok, ?_⟩
  suffices HH : ∀ (t i : Nat) (M1 : mM), rows + 1 ≤ i + t → i ≤ rows + 1 → NR L W e M M1 → RsK L M1 e → mI M1 (e + 1) = mI M (e + 1) → nv M1 (e + 7) = 1 → (∀ j, j < i → nv M1 (e + 9 + 2 * j) = 0) → h_Re_settle_10 G (d + 4) e rows bits i M1 (settQ L W e rows bits M) from
    HH (rows + 1) 0 M3 (by omega) (by omega) (hK.ncr c3 hF (fun t ht => Or.inl ht)) k3.1 (k3.2 1 (by decide)) v3 (fun j hj => absurd hj (by omega))
  intro t
  induction t with
  | zero =>
    intro i M1 h1 h2 hN k1 i1 v7 z
    refine k_Re_settle_10 hN.ok ⟨by omega, by omega⟩ ⟨by omega, by omega⟩ ⟨by omega, by omega⟩ ⟨fun _ => ?_, fun u => absurd (by omega) u⟩
    have b1 : (1 : Int) < 2 ^ (bits + 30) := by
      rw [Int.pow_add]
      have h1 : (0 : Int) < 2 ^ bits := Int.pow_pos (by decide)
      have h2 : (2 : Int) ^ 30 = 1073741824 := by decide
      omega
    exact s_se33 hr hb hF hE hW 36 0 1 M1 (by omega) (by omega) hN k1 i1 ⟨v7, by decide, fun j hj => by rw [z j (by omega)]; decide⟩ (by decide) b1
  | succ t ih =>
    intro i M1 h1 h2 hN k1 i1 v7 z
    by_cases ei : i = rows + 1
    · exact ih i M1 (by omega) h2 hN k1 i1 v7 z
    obtain ⟨⟨e0, ⟨-, r1, -⟩, ⟨-, k2, -⟩, ⟨-, n2, -⟩⟩, o, p, m7⟩ := id k1
    obtain ⟨pi, mi⟩ := p i (by omega)
    have F1 := hN.nf
    refine k_Re_settle_10 hN.ok ⟨by omega, by omega⟩ ⟨by omega, by omega⟩ ⟨by omega, by omega⟩ ⟨fun u => absurd u (by omega), fun _ => ?_⟩
    rw [r1, n2, Int.toNat_natCast, pi, show ((i : Int) + 1) = ((i + 1 : Nat) : Int) by omega]
    refine ⟨e0, k2, ⟨by omega, by omega⟩, F1.kd mi, (f_put0 (d := d + 4) ⟨by decide, by decide⟩ hN.ok F1 mi).mono (fun M12 q => ?_)⟩
    obtain ⟨c, v⟩ := q
    obtain ⟨k12, i12⟩ := k1.nc c F1
    refine ⟨c.ok, ih (i + 1) M12 (by omega) (by omega) (hN.trans (k1.ncr c F1 (fun t ht => Or.inr ⟨i, by omega, ht⟩))) k12 (by rw [i12 1 (by decide)]; exact i1) ((c.v F1 m7 (fun e => tr_n7 e.symm)).trans v7) (fun j hj => ?_)⟩
    by_cases cj : j = i
    · rw [cj]; exact v
    · rw [c.v F1 (p j (by omega)).2 (tr_ne cj)]; exact z j (by omega)
end NBM
