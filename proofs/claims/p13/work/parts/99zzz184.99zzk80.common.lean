/-! The Scales: a greatest common divisor. -/
section NAS
variable {G : mG} {d a b c z n m w S : Nat} {M M' M1 M2 M3 : mM} {L : List Nat} {W : Nat → Nat} {T T' I I' : Nat → Prop} {r r' : Prop} {u0 v0 : Int}
/-- the four numbers that it works with -/
def T4 (z x : Nat) : Prop := x = z + 1 ∨ x = z + 3 ∨ x = z + 5 ∨ x = z + 7
theorem SK.t4 (h : SK L M z) : ∀ t, T4 z t → t ∈ L := by
  intro t ht
  obtain ⟨-, -, -, -, -, ⟨h1, h2, h3, h4, -⟩, -⟩ := h
  rcases ht with u | u | u | u
  · rw [u]; exact h1
  · rw [u]; exact h2
  · rw [u]; exact h3
  · rw [u]; exact h4
theorem SK.z9 (h : SK L M z) : z < mZ M ∧ mK M z = 9 := ⟨h.1.2, h.1.1⟩
/-- the larger and the smaller -/
def Lsm (z a b : Nat) : Prop := (a = z + 1 ∧ b = z + 3) ∨ (a = z + 3 ∧ b = z + 1)
theorem Lsm.swap (h : Lsm z a b) : Lsm z b a := h.elim (fun u => Or.inr ⟨u.2, u.1⟩) (fun u => Or.inl ⟨u.2, u.1⟩)
theorem Lsm.t1 (h : Lsm z a b) : T4 z a ∧ T4 z b := by
  rcases h with ⟨u, v⟩ | ⟨u, v⟩
  · exact ⟨Or.inl u, Or.inr (Or.inl v)⟩
  · exact ⟨Or.inr (Or.inl u), Or.inl v⟩
theorem Lsm.ne (h : Lsm z a b) : a ≠ b ∧ a ≠ z + 5 ∧ a ≠ z + 7 ∧ b ≠ z + 5 ∧ b ≠ z + 7 := by
  rcases h with ⟨u, v⟩ | ⟨u, v⟩ <;> subst u <;> subst v <;> omega
/-- room for numbers of S limbs -/
def W4 (W : Nat → Nat) (z S : Nat) : Prop := S + 2 ≤ W (z + 1) ∧ S + 2 ≤ W (z + 3) ∧ S + 2 ≤ W (z + 5) ∧ S + 2 ≤ W (z + 7)
theorem Lsm.wd (h : Lsm z a b) (hw : W4 W z S) : S + 2 ≤ W a ∧ S + 2 ≤ W b := by
  obtain ⟨h1, h2, -, -⟩ := hw
  rcases h with ⟨u, v⟩ | ⟨u, v⟩ <;> subst u <;> subst v
  · exact ⟨h1, h2⟩
  · exact ⟨h2, h1⟩
def gdQ (L : List Nat) (W : Nat → Nat) (z : Nat) (u0 v0 : Int) (M : mM) (r : Nat) (M' : mM) : Prop := (r = z + 1 ∨ r = z + 3) ∧ NL L W (T4 z) (fun _ => False) False z M M' ∧ 0 < nv M' r ∧ nv M' r ∣ u0 ∧ nv M' r ∣ v0 ∧ ∀ g : Int, g ∣ u0 → g ∣ v0 → g ∣ nv M' r
theorem Lsm.rr (h : Lsm z a b) : a = z + 1 ∨ a = z + 3 := h.elim (fun u => Or.inl u.1) (fun u => Or.inr u.1)
theorem noI : ∀ x, (fun _ : Nat => False) x → x < mZ M ∧ mK M x = 11 := fun _ u => u.elim
/-- small numbers -/
theorem s_gc_small {M0 : mM} (hO : mOk M) (hF : NF L W M) (hF0 : NF L W M0) (hS : SK L M z) (hN : NL L W (T4 z) (fun _ => False) False z M0 M) (ls : Lsm z a b) (de : DE u0 v0 (nv M a) (nv M b)) (ab : nv M b ≤ nv M a) (p : 0 < nv M a) (s2 : sz M a < 3) : Cj G y_Na_bitsFrom (d + 3) [vr a, vi 0] M (fun x70 M69 => i64 x70 ∧ mOk M69 ∧ (mK M69 b = 10 ∧ Cj G y_Na_bitsFrom (d + 3) [vr b, vi 0] M69 (fun x74 M73 => i64 x74 ∧ mOk M73 ∧ (Cj G y_Ma_commonDivisor (d + 3) [vl x70, vl x74] M73 (fun x77 M76 => i64 x77 ∧ mOk M76 ∧ (mK M76 a = 10 ∧ Cv G y_Na_putLong (d + 3) [vr a, vl x77] M76 (fun M80 => mOk M80 ∧ (gdQ L W z u0 v0 M0 a M80)))))))) := by
  have hT := hS.t4
  have ha := hT a ls.t1.1
  have hb := hT b ls.t1.2
  have va : nv M a < 1152921504606846976 := by
    have h1 := hF.vlt ha
    have h2 := p30m (m := sz M a) (k := 2) (by omega)
    have h3 : (2 : Int) ^ (30 * 2) = 1152921504606846976 := by decide
    omega
  have nb := hF.nn0 hb
  have h60 : (2 : Int) ^ (0 + 60) = 1152921504606846976 := by decide
  have h1 : ∀ x : Int, x / 2 ^ 0 = x := fun x => by rw [show (2 : Int) ^ 0 = 1 by decide, Int.ediv_one]
  refine (s_Na_bitsFrom (bit := 0) hO (hF.nt ha) (by decide) (by rw [h60]; exact va)).mono (fun x M69 k => ?_)
  obtain ⟨e1, e2⟩ := k
  rw [h1] at e2
  have e2' : x = nv M a := e2
  rw [e1, e2']
  refine ⟨⟨by omega, by omega⟩, hO, hF.kd hb, (s_Na_bitsFrom (bit := 0) hO (hF.nt hb) (by decide) (by rw [h60]; exact Int.lt_of_le_of_lt ab va)).mono (fun y M73 k => ?_)⟩
  obtain ⟨f1, f2⟩ := k
  rw [h1] at f2
  have f2' : y = nv M b := f2
  rw [f1, f2']
  obtain ⟨x, hx⟩ : ∃ x : Nat, nv M a = ((x : Nat) : Int) := ⟨(nv M a).toNat, by omega⟩
  obtain ⟨y, hy⟩ : ∃ y : Nat, nv M b = ((y : Nat) : Int) := ⟨(nv M b).toNat, by omega⟩
  rw [hx] at de p va ab ⊢
  rw [hy] at de nb ab ⊢
  refine ⟨⟨by omega, by omega⟩, hO, (s_Ma_gcdL (x := x) (y := y) (by omega) (by omega) (by omega) hO).mono (fun g M76 k => ?_)⟩
  obtain ⟨g1, w, g2, g3, g4, g5, g6⟩ := k
  rw [g1, g2]
  refine ⟨⟨by omega, by omega⟩, hO, hF.kd ha, (f_putLong (d := d + 2) (x := ((w : Nat) : Int)) ⟨by omega, by omega⟩ hO hF ha).mono (fun M80 k => ?_)⟩
  obtain ⟨c1, v1⟩ := k
  have dv := (de ((w : Nat) : Int)).2 ⟨Int.natCast_dvd_natCast.2 g4, Int.natCast_dvd_natCast.2 g5⟩
  refine ⟨c1.ok, ls.rr, hN.trans ((c1.nl noI hS.z9).mono hF (fun t ht => by rw [ht]; exact ls.t1.1) hT (fun _ u => u) noI (fun u => u)), by rw [v1]; omega, by rw [v1]; exact dv.1, by rw [v1]; exact dv.2, fun g a1 a2 => ?_⟩
  rw [v1]
  obtain ⟨b1, b2⟩ := (de g).1 ⟨a1, a2⟩
  have q := g6 g.natAbs (Int.natAbs_dvd_natAbs.2 b1) (Int.natAbs_dvd_natAbs.2 b2)
  exact Int.natAbs_dvd_natAbs.1 q
theorem pr_h2 {k : Nat} {x y t : Int} (h : x * y < 2 ^ (k + 1)) (h2 : 2 * t ≤ x * y) : t < 2 ^ k := by
  rw [Int.pow_succ] at h
  omega
/-- the loop -/
theorem s_gc58 {M0 : mM} (hF0 : NF L W M0) (hS0 : SK L M0 z) (hw : W4 W z S) : ∀ (t i a b : Nat) (M : mM), 1000000 = i + t → NL L W (T4 z) (fun _ => False) False z M0 M → Lsm z a b → DE u0 v0 (nv M a) (nv M b) → nv M b ≤ nv M a → 0 < nv M a → sz M a ≤ S → nv M a * nv M b < 2 ^ t → h_Sc_commonDivisor_58 G (d + 3) z a b i M (gdQ L W z u0 v0 M0) := by
  have fin : ∀ {a b : Nat} {M : mM}, NL L W (T4 z) (fun _ => False) False z M0 M → Lsm z a b → DE u0 v0 (nv M a) (nv M b) → 0 < nv M a → nv M b = 0 → gdQ L W z u0 v0 M0 a M := by
    intro a b M hN ls de p z0
    have dv := (de (nv M a)).2 ⟨Int.dvd_refl _, by rw [z0]; exact Int.dvd_zero _⟩
    exact ⟨ls.rr, hN, p, dv.1, dv.2, fun g a1 a2 => ((de g).1 ⟨a1, a2⟩).1⟩
  intro t
  induction t with
  | zero =>
    intro i a b M ht hN ls de ab p hs pr
    have hS := hN.sk hF0 hS0
    have hF := hN.nf
    have ha := hS.t4 a ls.t1.1
    have hb := hS.t4 b ls.t1.2
    have nb := hF.nn0 hb
    have z0 : nv M b = 0 := by
      refine Classical.byContradiction (fun u => ?_)
      have := Int.mul_le_mul_of_nonneg_left (show 1 ≤ nv M b by omega) (Int.le_of_lt p)
      have e : (2 : Int) ^ 0 = 1 := by decide
      omega
    exact k_Sc_commonDivisor_58 hN.ok ⟨by omega, by omega⟩ ⟨fun u => absurd (by omega) u, fun _ => fin hN ls de p z0, fun u => absurd (Or.inl (by omega)) u⟩
  | succ t ih =>
    intro i a b M ht hN ls de ab p hs pr
    have hS := hN.sk hF0 hS0
    have hF := hN.nf
    have hO := hN.ok
    have ha := hS.t4 a ls.t1.1
    have hb := hS.t4 b ls.t1.2
    have nb := hF.nn0 hb
    have tb := hF.nt hb
    have ta := hF.nt ha
    have sb := hF.szm hF hb ha ab
    obtain ⟨n1, n2, n3, n4, n5⟩ := ls.ne
    refine k_Sc_commonDivisor_58 hO ⟨by omega, by omega⟩ ?_
    rw [tb.2.1, ta.2.1]
    refine ⟨fun _ => hF.kd hb, fun u => fin hN ls de p ((hF.sz0 hb).1 (by omega)), fun u => ⟨hF.kd ha, fun y => ?_, fun y => s_gc_small (d := d) hO hF hF0 hS hN ls de ab p (by omega)⟩⟩
    have b0 : 0 < nv M b := by
      refine Classical.byContradiction (fun w => u (Or.inr ?_))
      have := (hF.sz0 hb).2 (by omega)
      omega
    refine (s_Na_bits (d := d + 2) hO ta).mono (fun x42 M41 k => ?_)
    obtain ⟨e1, n, e2, k1, k2, k3, -⟩ := k
    obtain ⟨k4, k5⟩ := k3 (by omega)
    have k2' : nv M a < 2 ^ n := k2
    have cb := hF.cb ha
    have sc := hF.sc ha
    rw [e1, e2, show ((n : Nat) : Int) - 60 = ((n - 60 : Nat) : Int) by omega]
    have n60 : n - 60 + 60 = n := by omega
    refine ⟨⟨by omega, by omega⟩, hO, hF.kd ha, (s_Na_bitsFrom (bit := n - 60) hO ta (by omega) (by rw [n60]; exact k2)).mono (fun x46 M45 k => ?_)⟩
    obtain ⟨f1, f2⟩ := k
    have K0 : (0 : Int) < 2 ^ (n - 60) := Int.pow_pos (by decide)
    have kk : nv M a < 2 ^ (n - 60) * 1152921504606846976 := by
      rw [show (1152921504606846976 : Int) = 2 ^ 60 by decide, ← Int.pow_add, n60]
      exact k2'
    have f2' : x46 = nv M a / 2 ^ (n - 60) := f2
    have q1 : 0 ≤ nv M a / 2 ^ (n - 60) := Int.ediv_nonneg (by omega) (by omega)
    have q2 : nv M a / 2 ^ (n - 60) < 1152921504606846976 := Int.ediv_lt_of_lt_mul K0 (by rw [Int.mul_comm]; exact kk)
    have q3 : 0 ≤ nv M b / 2 ^ (n - 60) := Int.ediv_nonneg (by omega) (by omega)
    have q4 : nv M b / 2 ^ (n - 60) < 1152921504606846976 := Int.ediv_lt_of_lt_mul K0 (by rw [Int.mul_comm]; omega)
    rw [f1, f2']
    refine ⟨⟨by omega, by omega⟩, hO, hF.kd hb, (s_Na_bitsFrom (bit := n - 60) hO tb (by omega) (by rw [n60]; exact Int.lt_of_le_of_lt ab k2)).mono (fun x50 M49 k => ?_)⟩
    obtain ⟨g1, g2⟩ := k
    have g2' : x50 = nv M b / 2 ^ (n - 60) := g2
    rw [g1, g2']
    obtain ⟨⟨s1, s1'⟩, ⟨-, -, s2, s3, -, -, s4, -⟩, -, ⟨s5, s6, s7⟩, -⟩ := id hS
    refine ⟨⟨by omega, by omega⟩, hO, s1, (s_Sc_findFactors (e := d + 2) K0 hO s1 s4 s5 s6 kk (Int.le_of_lt b0) ab).mono (fun x54 M53 k => ?_)⟩
    obtain ⟨o53, F53, fa, fb, fc, fd, ⟨l0, l1, l2, l3⟩, ⟨j0, j1, j2, j3⟩, ⟨o1, o2, o3⟩, de2, pr2, x01⟩ := k
    have nl53 : NL L W (T4 z) (fun _ => False) False z M M53 := F53.nl o53 hF hS.t4 noI hS.z9
    have hN53 := hN.trans nl53
    have hF53 := nl53.nf
    have hS53 := nl53.sk hF hS
    obtain ⟨va, sa⟩ := F53.nv a
    obtain ⟨vb, sb'⟩ := F53.nv b
    obtain ⟨⟨m1, m1'⟩, ⟨-, -, m2, m3, -, -, m4, -⟩, -, ⟨m5, m6, m7⟩, -, ⟨-, -, m8, m9, -⟩, -⟩ := id hS53
    obtain ⟨w1, w2⟩ := ls.wd hw
    obtain ⟨-, -, w5, w7⟩ := id hw
    refine ⟨by rcases x01 with u | u <;> rw [u] <;> exact ⟨by decide, by decide⟩, o53, fun x0 => ⟨m1, hF53.kd ha, ?_⟩, fun x1 => ⟨m1, ?_⟩⟩
    · rw [m2, m3]
      refine (f_divide (d := d) o53 hF53 ha hb m8 m9 n1 n2 n3 n4 n5 (by omega) (by omega) (by omega) (by omega) (by omega)).mono (fun M62 k => ?_)
      obtain ⟨c1, e1', r1⟩ := k
      obtain ⟨-, -, -, b4, b5, -⟩ := c1.num hF53 hb (fun u => by rcases u with u | u | u <;> omega)
      rw [va, vb] at e1'
      rw [vb] at r1 b5
      have hF62 := c1.nf
      have r0 := hF62.nn0 ha
      have q1 : 1 ≤ nv M62 (z + 5) := by
        refine Classical.byContradiction (fun u => ?_)
        have := Int.mul_le_mul_of_nonneg_left (show nv M62 (z + 5) ≤ 0 by omega) (Int.le_of_lt b0)
        omega
      have er : nv M62 a = nv M a - nv M62 (z + 5) * nv M b := by rw [Int.mul_comm]; omega
      have hf := eu_half (Int.le_of_lt b0) ab ⟨r0, r1⟩ q1 er
      rw [show ((i : Int) + 1) = ((i + 1 : Nat) : Int) by omega]
      refine ⟨c1.ok, ih (i + 1) b a M62 (by omega) (hN53.trans ((c1.nl noI hS53.z9).mono hF53 (fun t ht => ?_) hS53.t4 (fun _ u => u) noI (fun u => u))) ls.swap ?_ (by omega) (by omega) (by omega) (by rw [b5]; exact pr_h2 pr hf)⟩
      · rcases ht with u | u | u
        · rw [u]; exact ls.t1.1
        · exact Or.inr (Or.inr (Or.inl u))
        · exact Or.inr (Or.inr (Or.inr u))
      · rw [b5, er]
        exact de.trans (DE.step _)
    · rw [m4]
      have vl := hF.vlt ha
      refine (f_combine (d := d) o53 hF53 ha hb n1 (by omega) (by omega) m5 m6 m7 l0 l1 l2 l3 j0 j1 j2 j3 (by rw [va, vb, sa]; omega) (by rw [va, vb, sa]; omega)).mono (fun M66 k => ?_)
      obtain ⟨c1, e1', e2'⟩ := k
      rw [va, vb] at e1' e2'
      have hF66 := c1.nf
      rw [← e1', ← e2'] at de2 pr2
      have up : 0 < nv M66 a := by
        refine Classical.byContradiction (fun u => ?_)
        have z1 : nv M66 a = 0 := by have := hF66.nn0 ha; omega
        have z2 : nv M66 b = 0 := by have := hF66.nn0 hb; omega
        have := ((de2 (nv M a + 1)).2 ⟨by rw [z1]; exact Int.dvd_zero _, by rw [z2]; exact Int.dvd_zero _⟩).1
        have := Int.le_of_dvd p this
        omega
      have s66 : sz M66 a ≤ sz M a := hF66.szm hF ha ha (by omega)
      rw [show ((i : Int) + 1) = ((i + 1 : Nat) : Int) by omega]
      refine ⟨c1.ok, ih (i + 1) a b M66 (by omega) (hN53.trans ((c1.nl noI hS53.z9).mono hF53 (fun t ht => ?_) hS53.t4 (fun _ u => u) noI (fun u => u))) ls (de.trans de2) (by omega) up (by omega) (pr_h2 pr (by rcases pr2 with u | u <;> first | exact absurd u x1 | exact u))⟩
      rcases ht with u | u
      · rw [u]; exact ls.t1.1
      · rw [u]; exact ls.t1.2
/-- a common divisor -/
theorem f_common {one other : Nat} (hO : mOk M) (hF : NF L W M) (hS : SK L M z) (h1 : one ∈ L) (h2 : other ∈ L) (t1 : ¬ T4 z one) (t2 : ¬ T4 z other) (pp : 0 < nv M one ∨ 0 < nv M other) (s1 : sz M one ≤ S) (s2 : sz M other ≤ S) (hS2 : S ≤ 16000) (hw : W4 W z S) : Cr G y_Sc_commonDivisor (d + 4) [vr z, vr one, vr other] M (gdQ L W z (nv M one) (nv M other) M) := by
  obtain ⟨⟨k1, k1'⟩, ⟨k2, k3, -⟩, -, -, -, ⟨k4, k5, -⟩, -⟩ := id hS
  obtain ⟨w1, w3, -⟩ := id hw
  refine k_Sc_commonDivisor hO ⟨k1, (f_order (d := d + 3) hO hF h1 h2).mono (fun x3 M2 k => ?_)⟩
  obtain ⟨e, ox⟩ := k
  rw [e, k2, k3]
  have xi : i32 x3 := by unfold orQ at ox; exact ⟨by omega, by omega⟩
  -- which of them is the larger one
  obtain ⟨big, sml, eb, es, hb, hs, tb, ts, pb, ps, lb, ls, le, de⟩ : ∃ big sml : Nat, (if (if (x3 < 0) then (0 : Int) else 1) = 0 then other else one) = big ∧ (if (if (x3 < 0) then (0 : Int) else 1) = 0 then one else other) = sml ∧ big ∈ L ∧ sml ∈ L ∧ ¬ T4 z big ∧ ¬ T4 z sml ∧ 0 < nv M big ∧ 0 ≤ nv M sml ∧ sz M big ≤ S ∧ sz M sml ≤ S ∧ nv M sml ≤ nv M big ∧ DE (nv M one) (nv M other) (nv M big) (nv M sml) := by
    unfold orQ at ox
    have n1 := hF.nn0 h1
    have n2 := hF.nn0 h2
    by_cases c : x3 < 0
    · rw [if_pos c, if_pos rfl, if_pos rfl]
      exact ⟨other, one, rfl, rfl, h2, h1, t2, t1, by omega, n1, s2, s1, by omega, DE.swap⟩
    · rw [if_neg c, if_neg (by decide), if_neg (by decide)]
      exact ⟨one, other, rfl, rfl, h1, h2, t1, t2, by omega, n2, s1, s2, by omega, DE.refl⟩
  refine ⟨xi, hO, fun v6 e6 v12 e12 => ⟨hF.kd k4, ?_⟩⟩
  rw [e6, eb] at e12
  rw [e12]
  refine (f_put1 (d := d + 2) hO hF k4 hb (fun u => tb (Or.inl u.symm)) (by omega)).mono (fun M16 k => ?_)
  obtain ⟨c1, v1⟩ := k
  have F1 := c1.nf
  refine ⟨c1.ok, fun v20 e20 => ⟨F1.kd k5, ?_⟩⟩
  rw [e6, es] at e20
  rw [e20]
  obtain ⟨-, -, -, n4, n5, -⟩ := c1.num hF hs (fun u => ts (Or.inl u))
  refine (f_put1 (d := d + 2) c1.ok F1 k5 hs (fun u => ts (Or.inr (Or.inl u.symm))) (by omega)).mono (fun M24 k => ?_)
  obtain ⟨c2, v2⟩ := k
  have F2 := c2.nf
  obtain ⟨-, -, -, a4, a5, -⟩ := c2.num F1 k4 (show z + 1 ≠ z + 3 by omega)
  rw [v1] at a5
  rw [n5] at v2
  have sb : sz M24 (z + 1) ≤ sz M big := F2.szm hF k4 hb (by omega)
  have nl1 := (c1.nl (I := fun _ => False) (r := False) noI hS.z9).mono (T' := T4 z) hF (fun t ht => Or.inl ht) hS.t4 (fun _ u => u) noI (fun u => u)
  have hS1 := nl1.sk hF hS
  have nl2 := (c2.nl (I := fun _ => False) (r := False) noI hS1.z9).mono (T' := T4 z) F1 (fun t ht => Or.inr (Or.inl ht)) hS.t4 (fun _ u => u) noI (fun u => u)
  refine ⟨c2.ok, s_gc58 (d := d) hF hS hw 1000000 0 (z + 1) (z + 3) M24 rfl (nl1.trans nl2) (Or.inl ⟨rfl, rfl⟩) (by rw [a5, v2]; exact de) (by omega) (by omega) (by omega) ?_⟩
  have u1 := hF.vlt hb
  have u2 := hF.vlt hs
  have u3 := p30m lb
  have u4 := p30m ls
  rw [a5, v2]
  have u5 : nv M big * nv M sml ≤ 2 ^ (30 * S) * nv M sml := Int.mul_le_mul_of_nonneg_right (by omega) ps
  have u6 : (2 : Int) ^ (30 * S) * nv M sml < 2 ^ (30 * S) * 2 ^ (30 * S) := Int.mul_lt_mul_of_pos_left (by omega) (p30p S)
  rw [← Int.pow_add] at u6
  have u7 := p2m (m := 30 * S + 30 * S) (k := 1000000) (by omega)
  exact Int.lt_of_le_of_lt u5 (Int.lt_of_lt_of_le u6 u7)
end NAS
