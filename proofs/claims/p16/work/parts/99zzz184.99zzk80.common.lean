section
/-! The Scales: a greatest common divisor. -/
section NAS
variable {G : mG} {d a b c z n m w S : Nat} {M M' M1 M2 M3 : mM} {L : List Nat} {W : Nat → Nat} {T T' I I' : Nat → Prop} {r r' : Prop} {u0 v0 : Int}
/-- the four numbers that it works with -/
def T4 (z x : Nat) : Prop := x = z + 1 ∨ x = z + 3 ∨ x = z + 5 ∨ x = z + 7
theorem SK.t4 (h : SK L M z) : ∀ t, T4 z t → t ∈ L := by
  intro t ht
  obtain ⟨-, -, -, -, -, ⟨h1, h2, h3, h4, -⟩, -⟩ := h
  rcases ht with u | u | u | u
  · rw [u]; exact h1
  · rw [u]; exact h2
  · rw [u]; exact h3
  · rw [u]; exact h4
theorem SK.z9 (h : SK L M z) : z < mZ M ∧ mK M z = 9 := ⟨h.1.2, h.1.1⟩
/-- the larger and the smaller -/
def Lsm (z a b : Nat) : Prop := (a = z + 1 ∧ b = z + 3) ∨ (a = z + 3 ∧ b = z + 1)
theorem Lsm.swap (h : Lsm z a b) : Lsm z b a := h.elim (fun u => Or.inr ⟨u.2, u.1⟩) (fun u => Or.inl ⟨u.2, u.1⟩)
theorem Lsm.t1 (h : Lsm z a b) : T4 z a ∧ T4 z b := by
  rcases h with ⟨u, v⟩ | ⟨u, v⟩
  · exact ⟨Or.inl u, Or.inr (Or.inl v)⟩
  · exact ⟨Or.inr (Or.inl u), Or.inl v⟩
theorem Lsm.ne (h : Lsm z a b) : a ≠ b ∧ a ≠ z + 5 ∧ a ≠ z + 7 ∧ b ≠ z + 5 ∧ b ≠ z + 7 := by
  rcases h with ⟨u, v⟩ | ⟨u, v⟩ <;> subst u <;> subst v <;> omega
/-- room for numbers of S limbs -/
def W4 (W : Nat → Nat) (z S : Nat) : Prop := S + 2 ≤ W (z + 1) ∧ S + 2 ≤ W (z + 3) ∧ S + 2 ≤ W (z + 5) ∧ S + 2 ≤ W (z + 7)
theorem Lsm.wd (h : Lsm z a b) (hw : W4 W z S) : S + 2 ≤ W a ∧ S + 2 ≤ W b := by
  obtain ⟨h1, h2, -, -⟩ := hw
  rcases h with ⟨u, v⟩ | ⟨u, v⟩ <;> subst u <;> subst v
  · exact ⟨h1, h2⟩
  · exact ⟨h2, h1⟩
def gdQ (L : List Nat) (W : Nat → Nat) (z : Nat) (u0 v0 : Int) (M : mM) (r : Nat) (M' : mM) : Prop := (r = z + 1 ∨ r = z + 3) ∧ NL L W (T4 z) (fun _ => False) False z M M' ∧ 0 < nv M' r ∧ nv M' r ∣ u0 ∧ nv M' r ∣ v0 ∧ ∀ g : Int, g ∣ u0 → g ∣ v0 → g ∣ nv M' r
theorem Lsm.rr (h : Lsm z a b) : a = z + 1 ∨ a = z + 3 := h.elim (fun u => Or.inl u.1) (fun u => Or.inr u.1)
theorem noI : ∀ x, (fun _ : Nat => False) x → x < mZ M ∧ mK M x = 11 := fun _ u => u.elim
/-- small numbers -/
theorem s_gc_small {M0 : mM} (hO : mOk M) (hF : NF L W M) (hF0 : NF L W M0) (hS : SK L M z) (hN : NL L W (T4 z) (fun _ => False) False z M0 M) (ls : Lsm z a b) (de : DE u0 v0 (nv M a) (nv M b)) (ab : nv M b ≤ nv M a) (p : 0 < nv M a) (s2 : sz M a < 3) : Cj G y_Na_bitsFrom (d + 3) [vr a, vi 0] M (fun x70 M69 => i64 x70 ∧ mOk M69 ∧ (mK M69 b = 10 ∧ Cj G y_Na_bitsFrom (d + 3) [vr b, vi 0] M69 (fun x74 M73 => i64 x74 ∧ mOk M73 ∧ (Cj G y_Ma_commonDivisor (d + 3) [vl x70, vl x74] M73 (fun x77 M76 => i64 x77 ∧ mOk M76 ∧ (mK M76 a = 10 ∧ Cv G y_Na_putLong (d + 3) [vr a, vl x77] M76 (fun M80 => mOk M80 ∧ (gdQ L W z u0 v0 M0 a M80)))))))) := by
  have hT := hS.t4
  have ha := hT a ls.t1.1
  have hb := hT b ls.t1.2
  have va : nv M a < 1152921504606846976 := by
    have h1 := hF.vlt ha
    have h2 := p30m (m := sz M a) (k := 2) (by omega)
    have h3 : (2 : Int) ^ (30 * 2) = 1152921504606846976 := by decide
    omega
  have nb := hF.nn0 hb
  have h60 : (2 : Int) ^ (0 + 60) = 1152921504606846976 := by decide
  have h1 : ∀ x : Int, x / 2 ^ 0 = x := fun x => by rw [show (2 : Int) ^ 0 = 1 by decide, Int.ediv_one]
  refine (s_Na_bitsFrom (bit := 0) hO (hF.nt ha) (by decide) (by rw [h60]; exact va)).mono (fun x M69 k => ?_)
  obtain ⟨e1, e2⟩ := k
  rw [h1] at e2
  have e2' : x = nv M a := e2
  rw [e1, e2']
  refine ⟨⟨by omega, by omega⟩, hO, hF.kd hb, (s_Na_bitsFrom (bit := 0) hO (hF.nt hb) (by decide) (by rw [h60]; exact Int.lt_of_le_of_lt ab va)).mono (fun y M73 k => ?_)⟩
  obtain ⟨f1, f2⟩ := k
  rw [h1] at f2
  have f2' : y = nv M b := f2
  rw [f1, f2']
  obtain ⟨x, hx⟩ : ∃ x : Nat, nv M a = ((x : Nat) : Int) := ⟨(nv M a).toNat, by omega⟩
  obtain ⟨y, hy⟩ : ∃ y : Nat, nv M b = ((y : Nat) : Int) := ⟨(nv M b).toNat, by omega⟩
  rw [hx] at de p va ab ⊢
  rw [hy] at de nb ab ⊢
  refine ⟨⟨by omega, by omega⟩, hO, (s_Ma_gcdL (x := x) (y := y) (by omega) (by omega) (by omega) hO).mono (fun g M76 k => ?_)⟩
  obtain ⟨g1, w, g2, g3, g4, g5, g6⟩ := k
  rw [g1, g2]
  refine ⟨⟨by omega, by omega⟩, hO, hF.kd ha, (f_putLong (d := d + 2) (x := ((w : Nat) : Int)) ⟨by omega, by omega⟩ hO hF ha).mono (fun M80 k => ?_)⟩
  obtain ⟨c1, v1⟩ := k
  have dv := (de ((w : Nat) : Int)).2 ⟨Int.natCast_dvd_natCast.2 g4, Int.natCast_dvd_natCast.2 g5⟩
  refine ⟨c1.ok, ls.rr, hN.trans ((c1.nl noI hS.z9).mono hF (fun t ht => by rw [ht]; exact ls.t1.1) hT (fun _ u => u) noI (fun u => u)), by rw [v1]; omega, by rw [v1]; exact dv.1, by rw [v1]; exact dv.2, fun g a1 a2 => ?_⟩
  rw [v1]
  obtain ⟨b1, b2⟩ := (de g).1 ⟨a1, a2⟩
  have q := g6 g.natAbs (Int.natAbs_dvd_natAbs.2 b1) (Int.natAbs_dvd_natAbs.2 b2)
  exact Int.natAbs_dvd_natAbs.1 q
theorem pr_h2 {k : Nat} {x y t : Int} (h : x * y < 2 ^ (k + 1)) (h2 : 2 * t ≤ x * y) : t < 2 ^ k := by
  rw [Int.pow_succ] at h
  omega
/-- the loop -/
theorem s_gc58 {M0 : mM} (hF0 : NF L W M0) (hS0 : SK L M0 z) (hw : W4 W z S) : ∀ (t i a b : Nat) (M : mM), 1000000 = i + t → NL L W (T4 z) (fun _ => False) False z M0 M → Lsm z a b → DE u0 v0 (nv M a) (nv M b) → nv M b ≤ nv M a → 0 < nv M a → sz M a ≤ S → nv M a * nv M b < 2 ^ t → h_Sc_commonDivisor_58 G (d + 3) z a b i M (gdQ L W z u0 v0 M0) := by
  have fin : ∀ {a b : Nat} {M : mM}, NL L W (T4 z) (fun _ => False) False z M0 M → Lsm z a b → DE u0 v0 (nv M a) (nv M b) → 0 < nv M a → nv M b = 0 → gdQ L W z u0 v0 M0 a M := by
    intro a b M hN ls de p z0
    have dv := (de (nv M a)).2 ⟨Int.dvd_refl _, by rw [z0]; exact Int.dvd_zero _⟩
    exact ⟨ls.rr, hN, p, dv.1, dv.2, fun g a1 a2 => ((de g).1 ⟨a1, a2⟩).1⟩
  intro t
  induction t with
  | zero =>
    intro i a b M ht hN ls de ab p hs pr
    have hS := hN.sk hF0 hS0
    have hF := hN.nf
    have ha := hS.t4 a ls.t1.1
    have hb := hS.t4 b ls.t1.2
    have nb := hF.nn0 hb
    have z0 : nv M b = 0 := by
      refine Classical.byContradiction (fun u => ?_)
      have := Int.mul_le_mul_of_nonneg_left (show 1 ≤ nv M b by omega) (Int.le_of_lt p)
      have e : (2 : Int) ^ 0 = 1 := by decide
      omega
    exact k_Sc_commonDivisor_58 hN.ok ⟨by omega, by omega⟩ ⟨fun u => absurd (by omega) u, fun _ => fin hN ls de p z0, fun u => absurd (Or.inl (by omega)) u⟩
  | succ t ih =>
    intro i a b M ht hN ls de ab p hs pr
    have hS := hN.sk hF0 hS0
    have hF := hN.nf
    have hO := hN.ok
    have ha := hS.t4 a ls.t1.1
    have hb := hS.t4 b ls.t1.2
    have nb := hF.nn0 hb
    have tb := hF.nt hb
    have ta := hF.nt ha
    have sb := hF.szm hF hb ha ab
    obtain ⟨n1, n2, n3, n4, n5⟩ := ls.ne
    refine k_Sc_commonDivisor_58 hO ⟨by omega, by omega⟩ ?_
    rw [tb.2.1, ta.2.1]
    refine ⟨fun _ => hF.kd hb, fun u => fin hN ls de p ((hF.sz0 hb).1 (by omega)), fun u => ⟨hF.kd ha, fun y => ?_, fun y => s_gc_small (d := d) hO hF hF0 hS hN ls de ab p (by omega)⟩⟩
    have b0 : 0 < nv M b := by
      refine Classical.byContradiction (fun w => u (Or.inr ?_))
      have := (hF.sz0 hb).2 (by omega)
      omega
    refine (s_Na_bits (d := d + 2) hO ta).mono (fun x42 M41 k => ?_)
    obtain ⟨e1, n, e2, k1, k2, k3, -⟩ := k
    obtain ⟨k4, k5⟩ := k3 (by omega)
    have k2' : nv M a < 2 ^ n := k2
    have cb := hF.cb ha
    have sc := hF.sc ha
    rw [e1, e2, show ((n : Nat) : Int) - 60 = ((n - 60 : Nat) : Int) by omega]
    have n60 : n - 60 + 60 = n := by omega
    refine ⟨⟨by omega, by omega⟩, hO, hF.kd ha, (s_Na_bitsFrom (bit := n - 60) hO ta (by omega) (by rw [n60]; exact k2)).mono (fun x46 M45 k => ?_)⟩
    obtain ⟨f1, f2⟩ := k
    have K0 : (0 : Int) < 2 ^ (n - 60) := Int.pow_pos (by decide)
    have kk : nv M a < 2 ^ (n - 60) * 1152921504606846976 := by
      rw [show (1152921504606846976 : Int) = 2 ^ 60 by decide, ← Int.pow_add, n60]
      exact k2'
    have f2' : x46 = nv M a / 2 ^ (n - 60) := f2
    have q1 : 0 ≤ nv M a / 2 ^ (n - 60) := Int.ediv_nonneg (by omega) (by omega)
    have q2 : nv M a / 2 ^ (n - 60) < 1152921504606846976 := Int.ediv_lt_of_lt_mul K0 (by rw [Int.mul_comm]; exact kk)
    have q3 : 0 ≤ nv M b / 2 ^ (n - 60) := Int.ediv_nonneg (by omega) (by omega)
    have q4 : nv M b / 2 ^ (n - 60) < 1152921504606846976 := Int.ediv_lt_of_lt_mul K0 (by rw [Int.mul_comm]; omega)
    rw [f1, f2']
    refine ⟨⟨by omega, by omega⟩, hO, hF.kd hb, (s_Na_bitsFrom (bit := n - 60) hO tb (by omega) (by rw [n60]; exact Int.lt_of_le_of_lt ab k2)).mono (fun x50 M49 k => ?_)⟩
    obtain ⟨g1, g2⟩ := k
    have g2' : x50 = nv M b / 2 ^ (n - 60) := g2
    rw [g1, g2']
    obtain ⟨⟨s1, s1'⟩, ⟨-, -, s2, s3, -, -, s4, -⟩, -, ⟨s5, s6, s7⟩, -⟩ := id hS
    refine ⟨⟨by omega, by omega⟩, hO, s1, (s_Sc_findFactors (e := d + 2) K0 hO s1 s4 s5 s6 kk (Int.le_of_lt b0) ab).mono (fun x54 M53 k => ?_)⟩
    obtain ⟨o53, F53, fa, fb, fc, fd, ⟨l0, l1, l2, l3⟩, ⟨j0, j1, j2, j3⟩, ⟨o1, o2, o3⟩, de2, pr2, x01⟩ := k
    have nl53 : NL L W (T4 z) (fun _ => False) False z M M53 := F53.nl o53 hF hS.t4 noI hS.z9
    have hN53 := hN.trans nl53
    have hF53 := nl53.nf
    have hS53 := nl53.sk hF hS
    obtain ⟨va, sa⟩ := F53.nv a
    obtain ⟨vb, sb'⟩ := F53.nv b
    obtain ⟨⟨m1, m1'⟩, ⟨-, -, m2, m3, -, -, m4, -⟩, -, ⟨m5, m6, m7⟩, -, ⟨-, -, m8, m9, -⟩, -⟩ := id hS53
    obtain ⟨w1, w2⟩ := ls.wd hw
    obtain ⟨-, -, w5, w7⟩ := id hw
    refine ⟨by rcases x01 with u | u <;> rw [u] <;> exact ⟨by decide, by decide⟩, o53, fun x0 => ⟨m1, hF53.kd ha, ?_⟩, fun x1 => ⟨m1, ?_⟩⟩
    · rw [m2, m3]
      refine (f_divide (d := d) o53 hF53 ha hb m8 m9 n1 n2 n3 n4 n5 (by omega) (by omega) (by omega) (by omega) (by omega)).mono (fun M62 k => ?_)
      obtain ⟨c1, e1', r1⟩ := k
      obtain ⟨-, -, -, b4, b5, -⟩ := c1.num hF53 hb (fun u => by rcases u with u | u | u <;> omega)
      rw [va, vb] at e1'
      rw [vb] at r1 b5
      have hF62 := c1.nf
      have r0 := hF62.nn0 ha
      have q1 : 1 ≤ nv M62 (z + 5) := by
        refine Classical.byContradiction (fun u => ?_)
        have := Int.mul_le_mul_of_nonneg_left (show nv M62 (z + 5) ≤ 0 by omega) (Int.le_of_lt b0)
        omega
      have er : nv M62 a = nv M a - nv M62 (z + 5) * nv M b := by rw [Int.mul_comm]; omega
      have hf := eu_half (Int.le_of_lt b0) ab ⟨r0, r1⟩ q1 er
      rw [show ((i : Int) + 1) = ((i + 1 : Nat) : Int) by omega]
      refine ⟨c1.ok, ih (i + 1) b a M62 (by omega) (hN53.trans ((c1.nl noI hS53.z9).mono hF53 (fun t ht => ?_) hS53.t4 (fun _ u => u) noI (fun u => u))) ls.swap ?_ (by omega) (by omega) (by omega) (by rw [b5]; exact pr_h2 pr hf)⟩
      · rcases ht with u | u | u
        · rw [u]; exact ls.t1.1
        · exact Or.inr (Or.inr (Or.inl u))
        · exact Or.inr (Or.inr (Or.inr u))
      · rw [b5, er]
        exact de.trans (DE.step _)
    · rw [m4]
      have vl := hF.vlt ha
      refine (f_combine (d := d) o53 hF53 ha hb n1 (by omega) (by omega) m5 m6 m7 l0 l1 l2 l3 j0 j1 j2 j3 (by rw [va, vb, sa]; omega) (by rw [va, vb, sa]; omega)).mono (fun M66 k => ?_)
      obtain ⟨c1, e1', e2'⟩ := k
      rw [va, vb] at e1' e2'
      have hF66 := c1.nf
      rw [← e1', ← e2'] at de2 pr2
      have up : 0 < nv M66 a := by
        refine Classical.byContradiction (fun u => ?_)
        have z1 : nv M66 a = 0 := by have := hF66.nn0 ha; omega
        have z2 : nv M66 b = 0 := by have := hF66.nn0 hb; omega
        have := ((de2 (nv M a + 1)).2 ⟨by rw [z1]; exact Int.dvd_zero _, by rw [z2]; exact Int.dvd_zero _⟩).1
        have := Int.le_of_dvd p this
        omega
      have s66 : sz M66 a ≤ sz M a := hF66.szm hF ha ha (by omega)
      rw [show ((i : Int) + 1) = ((i + 1 : Nat) : Int) by omega]
      refine ⟨c1.ok, ih (i + 1) a b M66 (by omega) (hN53.trans ((c1.nl noI hS53.z9).mono hF53 (fun t ht => ?_) hS53.t4 (fun _ u => u) noI (fun u => u))) ls (de.trans de2) (by omega) up (by omega) (pr_h2 pr (by rcases pr2 with u | u <;> first | exact absurd u x1 | exact u))⟩
      rcases ht with u | u
      · rw [u]; exact ls.t1.1
      · rw [u]; exact ls.t1.2
/-- a common divisor -/
theorem f_common {one other : Nat} (hO : mOk M) (hF : NF L W M) (hS : SK L M z) (h1 : one ∈ L) (h2 : other ∈ L) (t1 : ¬ T4 z one) (t2 : ¬ T4 z other) (pp : 0 < nv M one ∨ 0 < nv M other) (s1 : sz M one ≤ S) (s2 : sz M other ≤ S) (hS2 : S ≤ 16000) (hw : W4 W z S) : Cr G y_Sc_commonDivisor (d + 4) [vr z, vr one, vr other] M (gdQ L W z (nv M one) (nv M other) M) := by
  obtain ⟨⟨k1, k1'⟩, ⟨k2, k3, -⟩, -, -, -, ⟨k4, k5, -⟩, -⟩ := id hS
  obtain ⟨w1, w3, -⟩ := id hw
  refine k_Sc_commonDivisor hO ⟨k1, (f_order (d := d + 3) hO hF h1 h2).mono (fun x3 M2 k => ?_)⟩
  obtain ⟨e, ox⟩ := k
  rw [e, k2, k3]
  have xi : i32 x3 := by unfold orQ at ox; exact ⟨by omega, by omega⟩
  -- which of them is the larger one
  obtain ⟨big, sml, eb, es, hb, hs, tb, ts, pb, ps, lb, ls, le, de⟩ : ∃ big sml : Nat, (if (if (x3 < 0) then (0 : Int) else 1) = 0 then other else one) = big ∧ (if (if (x3 < 0) then (0 : Int) else 1) = 0 then one else other) = sml ∧ big ∈ L ∧ sml ∈ L ∧ ¬ T4 z big ∧ ¬ T4 z sml ∧ 0 < nv M big ∧ 0 ≤ nv M sml ∧ sz M big ≤ S ∧ sz M sml ≤ S ∧ nv M sml ≤ nv M big ∧ DE (nv M one) (nv M other) (nv M big) (nv M sml) := by
    unfold orQ at ox
    have n1 := hF.nn0 h1
    have n2 := hF.nn0 h2
    by_cases c : x3 < 0
    · rw [if_pos c, if_pos rfl, if_pos rfl]
      exact ⟨other, one, rfl, rfl, h2, h1, t2, t1, by omega, n1, s2, s1, by omega, DE.swap⟩
    · rw [if_neg c, if_neg (by decide), if_neg (by decide)]
      exact ⟨one, other, rfl, rfl, h1, h2, t1, t2, by omega, n2, s1, s2, by omega, DE.refl⟩
  refine ⟨xi, hO, fun v6 e6 v12 e12 => ⟨hF.kd k4, ?_⟩⟩
  rw [e6, eb] at e12
  rw [e12]
  refine (f_put1 (d := d + 2) hO hF k4 hb (fun u => tb (Or.inl u.symm)) (by omega)).mono (fun M16 k => ?_)
  obtain ⟨c1, v1⟩ := k
  have F1 := c1.nf
  refine ⟨c1.ok, fun v20 e20 => ⟨F1.kd k5, ?_⟩⟩
  rw [e6, es] at e20
  rw [e20]
  obtain ⟨-, -, -, n4, n5, -⟩ := c1.num hF hs (fun u => ts (Or.inl u))
  refine (f_put1 (d := d + 2) c1.ok F1 k5 hs (fun u => ts (Or.inr (Or.inl u.symm))) (by omega)).mono (fun M24 k => ?_)
  obtain ⟨c2, v2⟩ := k
  have F2 := c2.nf
  obtain ⟨-, -, -, a4, a5, -⟩ := c2.num F1 k4 (show z + 1 ≠ z + 3 by omega)
  rw [v1] at a5
  rw [n5] at v2
  have sb : sz M24 (z + 1) ≤ sz M big := F2.szm hF k4 hb (by omega)
  have nl1 := (c1.nl (I := fun _ => False) (r := False) noI hS.z9).mono (T' := T4 z) hF (fun t ht => Or.inl ht) hS.t4 (fun _ u => u) noI (fun u => u)
  have hS1 := nl1.sk hF hS
  have nl2 := (c2.nl (I := fun _ => False) (r := False) noI hS1.z9).mono (T' := T4 z) F1 (fun t ht => Or.inr (Or.inl ht)) hS.t4 (fun _ u => u) noI (fun u => u)
  refine ⟨c2.ok, s_gc58 (d := d) hF hS hw 1000000 0 (z + 1) (z + 3) M24 rfl (nl1.trans nl2) (Or.inl ⟨rfl, rfl⟩) (by rw [a5, v2]; exact de) (by omega) (by omega) (by omega) ?_⟩
  have u1 := hF.vlt hb
  have u2 := hF.vlt hs
  have u3 := p30m lb
  have u4 := p30m ls
  rw [a5, v2]
  have u5 : nv M big * nv M sml ≤ 2 ^ (30 * S) * nv M sml := Int.mul_le_mul_of_nonneg_right (by omega) ps
  have u6 : (2 : Int) ^ (30 * S) * nv M sml < 2 ^ (30 * S) * 2 ^ (30 * S) := Int.mul_lt_mul_of_pos_left (by omega) (p30p S)
  rw [← Int.pow_add] at u6
  have u7 := p2m (m := 30 * S + 30 * S) (k := 1000000) (by omega)
  exact Int.lt_of_le_of_lt u5 (Int.lt_of_lt_of_le u6 u7)
end NAS
end
section
/-! The Scales: fractions, other cells, an order of two fractions. -/
section NAT
variable {G : mG} {d a b c z n m w f f' S x : Nat} {M M' M1 M2 M3 : mM} {L : List Nat} {W : Nat → Nat} {T T' I I' : Nat → Prop} {r r' : Prop} {u0 v0 : Int}
/-- a cell that is neither a number nor a number's limbs -/
def Oc (L : List Nat) (M : mM) (x : Nat) : Prop := x < mZ M ∧ x ∉ L ∧ ∀ a, a ∈ L → mR M a 0 ≠ x
theorem NL.oc (h : NL L W T I r z M M') (hF : NF L W M) (hx : Oc L M x) : Oc L M' x := by
  refine ⟨Nat.lt_of_lt_of_le hx.1 h.2.2.1.1.1, hx.2.1, fun a ha u => ?_⟩
  by_cases c : T a
  · rcases h.2.2.2.1 a c with q | q
    · exact hx.2.2 a ha (by rw [← q]; exact u)
    · have := hx.1
      omega
  · rw [(h.num hF ha c).1] at u
    exact hx.2.2 a ha u
theorem NL.oth (h : NL L W T I r z M M') (hx : Oc L M x) (hz : x ≠ z) : mK M' x = mK M x ∧ mN M' x = mN M x ∧ mR M' x = mR M x ∧ (¬ I x → mI M' x = mI M x) := by
  obtain ⟨-, ⟨h2, hI, -⟩, h3, -, -⟩ := h
  obtain ⟨a1, a2, a3, a4, a5⟩ := h3.2 x hx.1
  refine ⟨a1, a2, a4 (fun u => u.elim (fun u => hx.2.1 (h2 x u)) (fun u => hz u.1)), fun ni => a5 ?_⟩
  rintro ((u | ⟨t, ht, u⟩) | u)
  · exact hx.2.1 (h2 x u)
  · exact hx.2.2 t (h2 t ht) u.symm
  · exact ni u
theorem NC.v (h : NC L W (fun x => x = a) M M') (hF : NF L W M) (hb : b ∈ L) (ne : b ≠ a) : nv M' b = nv M b := (h.num hF hb ne).2.2.2.2.1
/-- a fraction whose numbers are of the family -/
def FrL (L : List Nat) (M : mM) (f : Nat) : Prop := FrP M f ∧ f + 1 ∈ L ∧ f + 3 ∈ L
theorem NL.frl (h : NL L W T I r z M M') (hF : NF L W M) (hf : FrL L M f) : FrL L M' f := ⟨(h.frp hF hf.1).1, hf.2⟩
/-- a small factor is written -/
theorem nl_times {v : Int} (hO : mOk M) (hF : NF L W M) (hf : FrL L M f) (hz : z < mZ M ∧ mK M z = 9) (hv : i32 v) (e : M' = mUI M f 2 v) (hT : ∀ t, T t → t ∈ L) (hI : I f) (hI' : ∀ x, I x → x < mZ M ∧ mK M x = 11) : NL L W T I r z M M' ∧ mI M' f 2 = v ∧ ∀ a, a ∈ L → nv M' a = nv M a := by
  have F : FI (fun x => x = f) M M' := by rw [e]; exact FI.ui rfl
  have o : mOk M' := by rw [e]; exact mOk_UI hO hv
  have ne : ∀ a, a ∈ L → a ≠ f ∧ mR M a 0 ≠ f := fun a ha => hF.nI hf.1.1 ha
  have cc : ∀ b, cp M' b = cp M b := fun b => by unfold cp; rw [F.2.2.1, F.2.1]
  have nt' : ∀ a, a ∈ L → Nt M' a (mR M a 0) (cp M a) (sz M a) := fun a ha => (hF.nt ha).fi F (ne a ha).1 (ne a ha).2
  refine ⟨⟨⟨o, hF.1, fun a ha => ⟨(nt' a ha).nn, by rw [cc]; exact (hF.2.1 a ha).2.1, (hF.2.1 a ha).2.2⟩, fun a b ha hb u => hF.2.2 a b ha hb (by rw [← F.2.2.1]; exact u)⟩, ⟨hT, hI', hz⟩, ((F.fa (R := fun _ => False)).fd (D := fun x => x = z + 13)).mono (fun x _ u => Or.inr (by rw [u]; exact hI)) (fun _ _ u => u.elim) (fun _ _ u => u), fun t _ => Or.inl (by rw [F.2.2.1]), ?_⟩, by rw [mI_ui f 2 e, if_pos ⟨rfl, rfl⟩], fun a ha => ?_⟩
  · unfold RmN
    rw [show cp M' = cp M from funext cc, F.2.2.2.2.1, F.2.2.2.2.2.1]
    exact ⟨Nat.le_refl _, Nat.le_refl _⟩
  · rw [(nt' a ha).nv]
    unfold nv
    rw [F.2.2.2.2.2.2 _ (ne a ha).2]
/-- a fraction's numbers -/
def T2 (f x : Nat) : Prop := x = f + 1 ∨ x = f + 3
theorem FrL.t2 (h : FrL L M f) : ∀ t, T2 f t → t ∈ L := fun t u => u.elim (fun u => by rw [u]; exact h.2.1) (fun u => by rw [u]; exact h.2.2)
theorem f_Fr_put0 {v : Int} (hv : 0 ≤ v ∧ v < 1073741824) (hO : mOk M) (hF : NF L W M) (hf : FrL L M f) (hz : z < mZ M ∧ mK M z = 9) : Cv G y_Fr_put0 (d + 1) [vr f, vi v] M (fun M' => NL L W (T2 f) (fun x => x = f) False z M M' ∧ nv M' (f + 1) = v ∧ nv M' (f + 3) = 1 ∧ mI M' f 2 = 1) := by
  have hI : ∀ x, (fun x => x = f) x → x < mZ M ∧ mK M x = 11 := fun x u => by rw [u]; exact ⟨hf.1.2.2, hf.1.1⟩
  obtain ⟨⟨k, ⟨r0, r1⟩, l⟩, m1, m3⟩ := id hf
  refine k_Fr_put0 hO (l30i hv) ?_
  rw [r0]
  refine ⟨k, hF.kd m1, (f_put0 hv hO hF m1).mono (fun M3 k3 => ?_)⟩
  obtain ⟨c1, v1⟩ := k3
  have F1 := c1.nf
  have n1 : NL L W (T2 f) (fun x => x = f) False z M M3 := (c1.nl (I := fun x => x = f) (r := False) hI hz).mono hF (fun t ht => Or.inl ht) hf.t2 (fun _ u => u) hI (fun u => u)
  have hf1 := n1.frl hF hf
  obtain ⟨⟨k1, ⟨-, r1'⟩, l1⟩, -⟩ := id hf1
  rw [r1']
  refine ⟨c1.ok, k1, F1.kd m3, (f_put0 ⟨by decide, by decide⟩ c1.ok F1 m3).mono (fun M8 k8 => ?_)⟩
  obtain ⟨c2, v2⟩ := k8
  have F2 := c2.nf
  have hz1 : z < mZ M3 ∧ mK M3 z = 9 := ⟨Nat.lt_of_lt_of_le hz.1 n1.2.2.1.1.1, by rw [n1.kind hz.1]; exact hz.2⟩
  have hI1 : ∀ x, (fun x => x = f) x → x < mZ M3 ∧ mK M3 x = 11 := fun x u => by rw [u]; exact ⟨l1, k1⟩
  have n2 : NL L W (T2 f) (fun x => x = f) False z M3 M8 := (c2.nl (I := fun x => x = f) (r := False) hI1 hz1).mono F1 (fun t ht => Or.inr ht) hf.t2 (fun _ u => u) hI1 (fun u => u)
  have hf2 := n2.frl F1 hf1
  have n12 := n1.trans n2
  refine ⟨c2.ok, hf2.1.1, fun M12 e12 => ?_⟩
  obtain ⟨n3, t3, w3⟩ := nl_times (T := T2 f) (I := fun x => x = f) (r := False) (z := z) c2.ok F2 hf2 ⟨Nat.lt_of_lt_of_le hz.1 n12.2.2.1.1.1, by rw [n12.kind hz.1]; exact hz.2⟩ ⟨by decide, by decide⟩ e12 hf.t2 rfl (fun x u => by rw [u]; exact ⟨hf2.1.2.2, hf2.1.1⟩)
  exact ⟨n12.trans n3, by rw [w3 _ m1, c2.v F1 m1 (by omega), v1], by rw [w3 _ m3, v2], t3⟩
theorem f_Fr_put1 (hO : mOk M) (hF : NF L W M) (hf : FrL L M f) (hg : FrL L M f') (ff : f ≠ f') (n1 : f + 1 ≠ f' + 3) (n2 : f + 3 ≠ f' + 1) (hz : z < mZ M ∧ mK M z = 9) (w1 : sz M (f' + 1) ≤ W (f + 1)) (w3 : sz M (f' + 3) ≤ W (f + 3)) : Cv G y_Fr_put1 (d + 2) [vr f, vr f'] M (fun M' => NL L W (T2 f) (fun x => x = f) False z M M' ∧ nv M' (f + 1) = nv M (f' + 1) ∧ nv M' (f + 3) = nv M (f' + 3) ∧ mI M' f 2 = mI M f' 2) := by
  have hI : ∀ x, (fun x => x = f) x → x < mZ M ∧ mK M x = 11 := fun x u => by rw [u]; exact ⟨hf.1.2.2, hf.1.1⟩
  obtain ⟨⟨k, ⟨r0, r1⟩, l⟩, m1, m3⟩ := id hf
  obtain ⟨⟨k', ⟨r0', r1'⟩, l'⟩, m1', m3'⟩ := id hg
  refine k_Fr_put1 hO ?_
  rw [r0, r0']
  refine ⟨k, k', hF.kd m1, (f_put1 hO hF m1 m1' (by omega) w1).mono (fun M3 k3 => ?_)⟩
  obtain ⟨c1, v1⟩ := k3
  have F1 := c1.nf
  have n1' : NL L W (T2 f) (fun x => x = f) False z M M3 := (c1.nl (I := fun x => x = f) (r := False) hI hz).mono hF (fun t ht => Or.inl ht) hf.t2 (fun _ u => u) hI (fun u => u)
  have hf1 := n1'.frl hF hf
  have hg1 := n1'.frl hF hg
  rw [hf1.1.2.1.2, hg1.1.2.1.2]
  have s3 := (c1.num hF m3' (show ¬ (f' + 3 = f + 1) by omega)).2.2.2.1
  refine ⟨c1.ok, hf1.1.1, hg1.1.1, F1.kd m3, (f_put1 c1.ok F1 m3 m3' (by omega) (by omega)).mono (fun M8 k8 => ?_)⟩
  obtain ⟨c2, v2⟩ := k8
  have F2 := c2.nf
  have hz1 : z < mZ M3 ∧ mK M3 z = 9 := ⟨Nat.lt_of_lt_of_le hz.1 n1'.2.2.1.1.1, by rw [n1'.kind hz.1]; exact hz.2⟩
  have hI1 : ∀ x, (fun x => x = f) x → x < mZ M3 ∧ mK M3 x = 11 := fun x u => by rw [u]; exact ⟨hf1.1.2.2, hf1.1.1⟩
  have n2' : NL L W (T2 f) (fun x => x = f) False z M3 M8 := (c2.nl (I := fun x => x = f) (r := False) hI1 hz1).mono F1 (fun t ht => Or.inr ht) hf.t2 (fun _ u => u) hI1 (fun u => u)
  have hf2 := n2'.frl F1 hf1
  have hg2 := n2'.frl F1 hg1
  have n12 := n1'.trans n2'
  have t2 : mI M8 f' 2 = mI M f' 2 := by rw [(n12.frp hF hg.1).2 (fun u => ff u.symm)]
  rw [t2]
  refine ⟨c2.ok, hg2.1.1, hf2.1.1, fun M12 e12 => ?_⟩
  obtain ⟨n3, t3, w3'⟩ := nl_times (T := T2 f) (I := fun x => x = f) (r := False) (z := z) c2.ok F2 hf2 ⟨Nat.lt_of_lt_of_le hz.1 n12.2.2.1.1.1, by rw [n12.kind hz.1]; exact hz.2⟩ (hO _ _).1 e12 hf.t2 rfl (fun x u => by rw [u]; exact ⟨hf2.1.2.2, hf2.1.1⟩)
  exact ⟨n12.trans n3, by rw [w3' _ m1, c2.v F1 m1 (by omega), v1], by rw [w3' _ m3, v2, c1.v hF m3' (by omega)], t3⟩
end NAT
end
section
/-! The Scales: a command is weighed. -/
section NAU
variable {G : mG} {d a b c z n m w f S x B u : Nat} {M M' M1 M2 M3 : mM} {L : List Nat} {W : Nat → Nat} {T T' I I' : Nat → Prop} {r r' : Prop} {sh : Int}
/-- the numbers that weighing changes -/
def Twg (z w x : Nat) : Prop := T4 z x ∨ x = z + 11 ∨ x = z + 14 ∨ x = z + 16 ∨ x = w + 1 ∨ x = w + 3
/-- all is in its place -/
def Wsc (L : List Nat) (W : Nat → Nat) (z w f : Nat) (M : mM) : Prop := mOk M ∧ NF L W M ∧ SK L M z ∧ FrL L M w ∧ FrL L M f
/-- the worth is not the Scales' own scratch, a row is neither -/
def Dwg (z w f : Nat) : Prop := (¬ T4 z (w + 1) ∧ ¬ T4 z (w + 3) ∧ w + 1 ≠ z + 11 ∧ w + 1 ≠ z + 14 ∧ w + 1 ≠ z + 16 ∧ w + 3 ≠ z + 11 ∧ w + 3 ≠ z + 14 ∧ w + 3 ≠ z + 16) ∧ (¬ Twg z w (f + 1) ∧ ¬ Twg z w (f + 3) ∧ f ≠ w)
theorem Wsc.tw (h : Wsc L W z w f M) : ∀ t, Twg z w t → t ∈ L := by
  intro t ht
  obtain ⟨-, -, hS, hw, -⟩ := h
  have k := hS.2.2.2.2.2.1
  rcases ht with u | u | u | u | u | u
  · exact hS.t4 t u
  · rw [u]; exact k.2.2.2.2.2.1
  · rw [u]; exact k.2.2.2.2.2.2.1
  · rw [u]; exact k.2.2.2.2.2.2.2
  · rw [u]; exact hw.2.1
  · rw [u]; exact hw.2.2
theorem Wsc.iw (h : Wsc L W z w f M) : ∀ x, (fun x => x = w) x → x < mZ M ∧ mK M x = 11 := fun x u => by
  rw [u]
  exact ⟨h.2.2.2.1.1.2.2, h.2.2.2.1.1.1⟩
theorem Wsc.nl (h : Wsc L W z w f M) (k : NL L W (Twg z w) (fun _ => False) False z M M') : Wsc L W z w f M' := by
  obtain ⟨h1, h2, h3, h4, h5⟩ := h
  exact ⟨k.ok, k.nf, k.sk h2 h3, k.frl h2 h4, k.frl h2 h5⟩
theorem Wsc.st (h : Wsc L W z w f M) (ha : Twg z w a) (c : NC L W (fun x => x = a) M M') : NL L W (Twg z w) (fun _ => False) False z M M' ∧ Wsc L W z w f M' := by
  have n : NL L W (Twg z w) (fun _ => False) False z M M' := (c.nl (I := fun _ => False) (r := False) noI h.2.2.1.z9).mono h.2.1 (fun t ht => by rw [ht]; exact ha) h.tw (fun _ u => u) noI (fun u => u)
  exact ⟨n, h.nl n⟩
theorem Wsc.st3 (h : Wsc L W z w f M) (ha : Twg z w a ∧ Twg z w b ∧ Twg z w c) (k : NC L W (fun x => x = a ∨ x = b ∨ x = c) M M') : NL L W (Twg z w) (fun _ => False) False z M M' ∧ Wsc L W z w f M' := by
  have n : NL L W (Twg z w) (fun _ => False) False z M M' := (k.nl (I := fun _ => False) (r := False) noI h.2.2.1.z9).mono h.2.1 (fun t ht => by
    rcases ht with u | u | u
    · rw [u]; exact ha.1
    · rw [u]; exact ha.2.1
    · rw [u]; exact ha.2.2) h.tw (fun _ u => u) noI (fun u => u)
  exact ⟨n, h.nl n⟩
/-- references and kinds -/
theorem Wsc.pl (h : Wsc L W z w f M) : (mK M z = 9 ∧ mK M w = 11 ∧ mK M f = 11) ∧ (mR M z 2 = z + 5 ∧ mR M z 3 = z + 7 ∧ mR M z 5 = z + 11 ∧ mR M z 7 = z + 14 ∧ mR M z 8 = z + 16) ∧ (mR M w 0 = w + 1 ∧ mR M w 1 = w + 3) ∧ (mR M f 0 = f + 1 ∧ mR M f 1 = f + 3) ∧ (z + 5 ∈ L ∧ z + 7 ∈ L ∧ z + 11 ∈ L ∧ z + 14 ∈ L ∧ z + 16 ∈ L ∧ w + 1 ∈ L ∧ w + 3 ∈ L ∧ f + 1 ∈ L ∧ f + 3 ∈ L) := by
  obtain ⟨-, -, ⟨k1, ⟨-, -, k2, k3, -, k5, -, k7, k8⟩, -, -, -, ⟨-, -, p1, p2, -, p3, p4, p5⟩, -⟩, ⟨⟨q1, q2, -⟩, q3, q4⟩, ⟨⟨r1, r2, -⟩, r3, r4⟩⟩ := h
  exact ⟨⟨k1.1, q1, r1⟩, ⟨k2, k3, k5, k7, k8⟩, q2, r2, p1, p2, p3, p4, p5, q3, q4, r3, r4⟩
theorem dv_ex {U r Q e : Int} (hr : 0 < r) (hd : r ∣ U) (h : U = r * Q + e) (he : 0 ≤ e ∧ e < r) : U = r * Q := by
  have h1 : r ∣ e := by
    have := Int.dvd_sub hd (Int.dvd_mul_right r Q)
    rw [show U - r * Q = e by omega] at this
    exact this
  have h2 : e = 0 := Classical.byContradiction (fun u => by
    have := Int.le_of_dvd (by omega) h1
    omega)
  omega
theorem qb {U r Q : Int} {u : Nat} (hr : 0 < r) (hQ : 0 ≤ Q) (h : U = r * Q) (hU : U < 2 ^ (30 * u)) : Q < 2 ^ (30 * u) := by
  have := Int.mul_le_mul_of_nonneg_right (show 1 ≤ r by omega) hQ
  omega
theorem pb {x y : Int} {p q : Nat} (hx : 0 ≤ x ∧ x < 2 ^ (30 * p)) (hy : 0 ≤ y ∧ y < 2 ^ (30 * q)) : x * y < 2 ^ (30 * (p + q)) := by
  have h1 : x * y ≤ 2 ^ (30 * p) * y := Int.mul_le_mul_of_nonneg_right (by omega) hy.1
  have h2 : (2 : Int) ^ (30 * p) * y < 2 ^ (30 * p) * 2 ^ (30 * q) := Int.mul_lt_mul_of_pos_left hy.2 (p30p p)
  rw [p30a]
  omega
theorem nez {z i j : Nat} (h : i ≠ j) : z + i ≠ z + j := by omega
theorem Dwg.nx (h : Dwg z w f) : (¬ (w + 1 = z + 14 ∨ w + 1 = z + 5 ∨ w + 1 = z + 7) ∧ ¬ (w + 1 = z + 16 ∨ w + 1 = z + 5 ∨ w + 1 = z + 7)) ∧ (¬ (w + 3 = z + 14 ∨ w + 3 = z + 5 ∨ w + 3 = z + 7) ∧ ¬ (w + 3 = z + 16 ∨ w + 3 = z + 5 ∨ w + 3 = z + 7)) ∧ (¬ (z + 14 = z + 16 ∨ z + 14 = z + 5 ∨ z + 14 = z + 7)) := by
  obtain ⟨⟨h1, h2, -, h4, h5, -, h7, h8⟩, -⟩ := h
  unfold T4 at h1 h2
  exact ⟨⟨by omega, by omega⟩, ⟨by omega, by omega⟩, by omega⟩
theorem r_n {r : Nat} (er : r = z + 1 ∨ r = z + 3) : (r ≠ z + 5 ∧ r ≠ z + 7 ∧ r ≠ z + 14 ∧ r ≠ z + 16) ∧ ¬ (r = z + 14 ∨ r = z + 5 ∨ r = z + 7) ∧ ¬ (r = z + 16 ∨ r = z + 5 ∨ r = z + 7) := by rcases er with e | e <;> subst e <;> omega
/-- room -/
theorem wg_in (hW : ∀ x, Twg z w x → B ≤ W x) (b1 : a + S + 3 ≤ B) (b2 : u + S + 3 ≤ B) (hB : B ≤ 16000) : (u + S ≤ 16000 ∧ W4 W z (u + S)) ∧ (u ≤ W (z + 14) ∧ u + 2 ≤ W (z + 14) ∧ u + 1 ≤ W (z + 5) ∧ u + 1 ≤ W (z + 7)) ∧ (S ≤ W (z + 16) ∧ S + 2 ≤ W (z + 16) ∧ S + 1 ≤ W (z + 5)) ∧ (a + S ≤ W (z + 11) ∧ a + S ≤ W (w + 1) ∧ S + u ≤ W (z + 11) ∧ a + S + 1 ≤ W (w + 1) ∧ S + u + 1 ≤ W (w + 1) ∧ u + S ≤ W (z + 11) ∧ u + S ≤ W (w + 3)) := by
  have W5 := hW (z + 5) (Or.inl (Or.inr (Or.inr (Or.inl rfl))))
  have W7 := hW (z + 7) (Or.inl (Or.inr (Or.inr (Or.inr rfl))))
  have W11 := hW (z + 11) (Or.inr (Or.inl rfl))
  have W14 := hW (z + 14) (Or.inr (Or.inr (Or.inl rfl)))
  have W16 := hW (z + 16) (Or.inr (Or.inr (Or.inr (Or.inl rfl))))
  have Ww1 := hW (w + 1) (Or.inr (Or.inr (Or.inr (Or.inr (Or.inl rfl)))))
  have Ww3 := hW (w + 3) (Or.inr (Or.inr (Or.inr (Or.inr (Or.inr rfl)))))
  have W1 := hW (z + 1) (Or.inl (Or.inl rfl))
  have W3 := hW (z + 3) (Or.inl (Or.inr (Or.inl rfl)))
  unfold W4
  omega
/-- the sum and the product, at the end -/
theorem s_wgD {Q : mM → Prop} {Q1 Q2 A U : Int} (h : Wsc L W z w f M) (dw : Dwg z w f) (hsh : 0 ≤ sh ∧ sh < 1073741824) (hA : A * Q2 < 2 ^ (30 * (a + S))) (U0 : 0 ≤ U) (hU : U < 2 ^ (30 * u)) (X0 : 0 ≤ nv M (f + 1)) (hFa : nv M (f + 1) < 2 ^ (30 * S)) (Q1n : 0 ≤ Q1) (Q1b : Q1 < 2 ^ (30 * u)) (Q2n : 0 ≤ Q2) (Q2b : Q2 < 2 ^ (30 * S)) (A9 : nv M (w + 1) = A * Q2) (U9 : nv M (w + 3) = U) (P9 : nv M (z + 14) = Q1) (Q9 : nv M (z + 16) = Q2) (hW : ∀ x, Twg z w x → B ≤ W x) (b1 : a + S + 3 ≤ B) (b2 : u + S + 3 ≤ B) (hB : B ≤ 16000)
    (hQ : ∀ M', NL L W (Twg z w) (fun _ => False) False z M M' → nv M' (w + 1) = A * Q2 + sh * (nv M (f + 1) * Q1) → nv M' (w + 3) = U * Q2 → Q M') : mK M z = 9 ∧ mK M f = 11 ∧ mK M (mR M z 5) = 10 ∧ Cv G y_Na_putProduct (d + 4) [vr (mR M z 5), vr (mR M f 0), vr (mR M z 7)] M (fun M103 => mOk M103 ∧ (mK M103 w = 11 ∧ mK M103 z = 9 ∧ mK M103 (mR M103 w 0) = 10 ∧ Cv G y_Na_add (d + 4) [vr (mR M103 w 0), vr (mR M103 z 5), vi sh] M103 (fun M109 => mOk M109 ∧ (mK M109 z = 9 ∧ mK M109 w = 11 ∧ mK M109 (mR M109 z 5) = 10 ∧ Cv G y_Na_putProduct (d + 4) [vr (mR M109 z 5), vr (mR M109 w 1), vr (mR M109 z 8)] M109 (fun M115 => mOk M115 ∧ (mK M115 w = 11 ∧ mK M115 z = 9 ∧ mK M115 (mR M115 w 1) = 10 ∧ Cv G y_Na_put1 (d + 4) [vr (mR M115 w 1), vr (mR M115 z 5)] M115 (fun M121 => mOk M121 ∧ (Q M121)))))))) := by
  obtain ⟨⟨d1, d2, d3, d4, d5, d6, d7, d8⟩, d9, d10, d11⟩ := id dw
  obtain ⟨hO, hF, hS, hw, hf⟩ := id h
  obtain ⟨⟨k1, k2, k3⟩, ⟨r2, r3, r5, r7, r8⟩, ⟨w0, w1⟩, ⟨f0, f1⟩, m5, m7, m11, m14, m16, mw1, mw3, mf1, mf3⟩ := h.pl
  have t5 : Twg z w (z + 5) := Or.inl (Or.inr (Or.inr (Or.inl rfl)))
  have t7 : Twg z w (z + 7) := Or.inl (Or.inr (Or.inr (Or.inr rfl)))
  have t11 : Twg z w (z + 11) := Or.inr (Or.inl rfl)
  have t14 : Twg z w (z + 14) := Or.inr (Or.inr (Or.inl rfl))
  have t16 : Twg z w (z + 16) := Or.inr (Or.inr (Or.inr (Or.inl rfl)))
  have tw1 : Twg z w (w + 1) := Or.inr (Or.inr (Or.inr (Or.inr (Or.inl rfl))))
  have tw3 : Twg z w (w + 3) := Or.inr (Or.inr (Or.inr (Or.inr (Or.inr rfl))))
  have nf1 : ∀ x, Twg z w x → f + 1 ≠ x := fun x hx e => d9 (by rw [e]; exact hx)
  have nf3 : ∀ x, Twg z w x → f + 3 ≠ x := fun x hx e => d10 (by rw [e]; exact hx)
  obtain ⟨⟨i16, i4⟩, ⟨i14, i142, i5, i7⟩, ⟨j16, j162, j5⟩, ⟨i11, iw1, j11, iw11, jw11, l11, iw3⟩⟩ := wg_in (a := a) hW b1 b2 hB
  obtain ⟨⟨x1, x2⟩, ⟨x3, x4⟩, x5⟩ := dw.nx
  clear hW b1 b2 hB
  have sfa := hF.szv mf1 hFa
  have s149 : sz M (z + 14) ≤ u := hF.szv m14 (by rw [P9]; exact Q1b)
  have w13 : w + 3 ≠ w + 1 := nez (by decide)
  rw [r5, f0, r7]
  refine ⟨k1, k3, hF.kd m11, (f_putProduct (d := d + 1) hO hF m11 mf1 m14 (fun e => nf1 _ t11 e.symm) (nez (by decide)) (Nat.le_trans (Nat.add_le_add sfa s149) j11)).mono (fun M103 g => ?_)⟩
  obtain ⟨c10, v10⟩ := g
  obtain ⟨N10, H10⟩ := h.st t11 c10
  have F10 := H10.2.1
  obtain ⟨⟨k1, k2, k3⟩, ⟨r2, r3, r5, r7, r8⟩, ⟨w0, w1⟩, ⟨f0, f1⟩, -⟩ := H10.pl
  rw [P9] at v10
  have A10 := (c10.v hF mw1 d3).trans A9
  have Q10 := (c10.v hF m16 (nez (by decide))).trans Q9
  have U10 := (c10.v hF mw3 d6).trans U9
  have b10 := pb (x := nv M (f + 1)) (y := Q1) ⟨X0, hFa⟩ ⟨Q1n, Q1b⟩
  have s11' : sz M103 (z + 11) ≤ S + u := F10.szv m11 (by rw [v10]; exact b10)
  have sA10 : sz M103 (w + 1) ≤ a + S := F10.szv mw1 (by rw [A10]; exact hA)
  rw [w0, r5]
  refine ⟨H10.1, k2, k1, F10.kd mw1, (f_add (d := d + 1) hsh H10.1 F10 mw1 m11 d3 (Nat.le_trans (Nat.add_le_add_right sA10 1) iw11) (Nat.le_trans (Nat.add_le_add_right s11' 1) jw11)).mono (fun M109 g => ?_)⟩
  obtain ⟨c11, v11⟩ := g
  obtain ⟨n11, H11⟩ := H10.st tw1 c11
  have N11 := N10.trans n11
  have F11 := H11.2.1
  obtain ⟨⟨k1, k2, k3⟩, ⟨r2, r3, r5, r7, r8⟩, ⟨w0, w1⟩, ⟨f0, f1⟩, -⟩ := H11.pl
  rw [A10, v10] at v11
  have Q11 := (c11.v F10 m16 (fun e => d5 e.symm)).trans Q10
  have U11 := (c11.v F10 mw3 w13).trans U10
  have sU11 : sz M109 (w + 3) ≤ u := F11.szv mw3 (by rw [U11]; exact hU)
  have s1611 : sz M109 (z + 16) ≤ S := F11.szv m16 (by rw [Q11]; exact Q2b)
  rw [r5, w1, r8]
  refine ⟨H11.1, k1, k2, F11.kd m11, (f_putProduct (d := d + 1) H11.1 F11 m11 mw3 m16 (fun e => d6 e.symm) (nez (by decide)) (Nat.le_trans (Nat.add_le_add sU11 s1611) l11)).mono (fun M115 g => ?_)⟩
  obtain ⟨c12, v12⟩ := g
  obtain ⟨n12, H12⟩ := H11.st t11 c12
  have N12 := N11.trans n12
  have F12 := H12.2.1
  obtain ⟨⟨k1, k2, k3⟩, ⟨r2, r3, r5, r7, r8⟩, ⟨w0, w1⟩, ⟨f0, f1⟩, -⟩ := H12.pl
  rw [U11, Q11] at v12
  have A12 := (c12.v F11 mw1 d3).trans v11
  have b12 := pb (x := U) (y := Q2) ⟨U0, hU⟩ ⟨Q2n, Q2b⟩
  have s1112 : sz M115 (z + 11) ≤ u + S := F12.szv m11 (by rw [v12]; exact b12)
  rw [w1, r5]
  refine ⟨H12.1, k2, k1, F12.kd mw3, (f_put1 (d := d + 3) H12.1 F12 mw3 m11 d6 (Nat.le_trans s1112 iw3)).mono (fun M121 g => ?_)⟩
  obtain ⟨c13, v13⟩ := g
  obtain ⟨n13, H13⟩ := H12.st tw3 c13
  exact ⟨H13.1, hQ M121 (N12.trans n13) ((c13.v F12 mw1 (nez (by decide))).trans A12) (v13.trans v12)⟩
/-- the sum, from the quotients on -/
theorem s_wgC {Q : mM → Prop} {Q1 Q2 A U : Int} (h : Wsc L W z w f M) (dw : Dwg z w f) (hsh : 0 ≤ sh ∧ sh < 1073741824) (A0 : 0 ≤ A) (hA : A < 2 ^ (30 * a)) (U0 : 0 ≤ U) (hU : U < 2 ^ (30 * u)) (X0 : 0 ≤ nv M (f + 1)) (hFa : nv M (f + 1) < 2 ^ (30 * S)) (Q1n : 0 ≤ Q1) (Q1b : Q1 < 2 ^ (30 * u)) (Q2n : 0 ≤ Q2) (Q2b : Q2 < 2 ^ (30 * S)) (A7 : nv M (w + 1) = A) (U7 : nv M (w + 3) = U) (P7 : nv M (z + 14) = Q1) (v7 : nv M (z + 16) = Q2) (hW : ∀ x, Twg z w x → B ≤ W x) (b1 : a + S + 3 ≤ B) (b2 : u + S + 3 ≤ B) (hB : B ≤ 16000)
    (hQ : ∀ M', NL L W (Twg z w) (fun _ => False) False z M M' → nv M' (w + 1) = A * Q2 + sh * (nv M (f + 1) * Q1) → nv M' (w + 3) = U * Q2 → Q M') : mK M z = 9 ∧ mK M w = 11 ∧ mK M (mR M z 5) = 10 ∧ Cv G y_Na_putProduct (d + 4) [vr (mR M z 5), vr (mR M w 0), vr (mR M z 8)] M (fun M91 => mOk M91 ∧ (mK M91 w = 11 ∧ mK M91 z = 9 ∧ mK M91 (mR M91 w 0) = 10 ∧ Cv G y_Na_put1 (d + 4) [vr (mR M91 w 0), vr (mR M91 z 5)] M91 (fun M97 => mOk M97 ∧ (mK M97 z = 9 ∧ mK M97 f = 11 ∧ mK M97 (mR M97 z 5) = 10 ∧ Cv G y_Na_putProduct (d + 4) [vr (mR M97 z 5), vr (mR M97 f 0), vr (mR M97 z 7)] M97 (fun M103 => mOk M103 ∧ (mK M103 w = 11 ∧ mK M103 z = 9 ∧ mK M103 (mR M103 w 0) = 10 ∧ Cv G y_Na_add (d + 4) [vr (mR M103 w 0), vr (mR M103 z 5), vi sh] M103 (fun M109 => mOk M109 ∧ (mK M109 z = 9 ∧ mK M109 w = 11 ∧ mK M109 (mR M109 z 5) = 10 ∧ Cv G y_Na_putProduct (d + 4) [vr (mR M109 z 5), vr (mR M109 w 1), vr (mR M109 z 8)] M109 (fun M115 => mOk M115 ∧ (mK M115 w = 11 ∧ mK M115 z = 9 ∧ mK M115 (mR M115 w 1) = 10 ∧ Cv G y_Na_put1 (d + 4) [vr (mR M115 w 1), vr (mR M115 z 5)] M115 (fun M121 => mOk M121 ∧ (Q M121)))))))))))) := by
  have hW0 := hW
  obtain ⟨⟨d1, d2, d3, d4, d5, d6, d7, d8⟩, d9, d10, d11⟩ := id dw
  obtain ⟨hO, hF, hS, hw, hf⟩ := id h
  obtain ⟨⟨k1, k2, k3⟩, ⟨r2, r3, r5, r7, r8⟩, ⟨w0, w1⟩, ⟨f0, f1⟩, m5, m7, m11, m14, m16, mw1, mw3, mf1, mf3⟩ := h.pl
  have t5 : Twg z w (z + 5) := Or.inl (Or.inr (Or.inr (Or.inl rfl)))
  have t7 : Twg z w (z + 7) := Or.inl (Or.inr (Or.inr (Or.inr rfl)))
  have t11 : Twg z w (z + 11) := Or.inr (Or.inl rfl)
  have t14 : Twg z w (z + 14) := Or.inr (Or.inr (Or.inl rfl))
  have t16 : Twg z w (z + 16) := Or.inr (Or.inr (Or.inr (Or.inl rfl)))
  have tw1 : Twg z w (w + 1) := Or.inr (Or.inr (Or.inr (Or.inr (Or.inl rfl))))
  have tw3 : Twg z w (w + 3) := Or.inr (Or.inr (Or.inr (Or.inr (Or.inr rfl))))
  have nf1 : ∀ x, Twg z w x → f + 1 ≠ x := fun x hx e => d9 (by rw [e]; exact hx)
  have nf3 : ∀ x, Twg z w x → f + 3 ≠ x := fun x hx e => d10 (by rw [e]; exact hx)
  obtain ⟨⟨i16, i4⟩, ⟨i14, i142, i5, i7⟩, ⟨j16, j162, j5⟩, ⟨i11, iw1, j11, iw11, jw11, l11, iw3⟩⟩ := wg_in (a := a) hW b1 b2 hB
  obtain ⟨⟨x1, x2⟩, ⟨x3, x4⟩, x5⟩ := dw.nx
  clear hW
  have sA7 : sz M (w + 1) ≤ a := hF.szv mw1 (by rw [A7]; exact hA)
  have s167 : sz M (z + 16) ≤ S := hF.szv m16 (by rw [v7]; exact Q2b)
  rw [r5, w0, r8]
  refine ⟨k1, k2, hF.kd m11, (f_putProduct (d := d + 1) hO hF m11 mw1 m16 (fun e => d3 e.symm) (nez (by decide)) (Nat.le_trans (Nat.add_le_add sA7 s167) i11)).mono (fun M91 g => ?_)⟩
  obtain ⟨c8, v8⟩ := g
  obtain ⟨N8, H8⟩ := h.st t11 c8
  have F8 := H8.2.1
  obtain ⟨⟨k1, k2, k3⟩, ⟨r2, r3, r5, r7, r8⟩, ⟨w0, w1⟩, ⟨f0, f1⟩, -⟩ := H8.pl
  rw [A7, v7] at v8
  have P8 := (c8.v hF m14 (nez (by decide))).trans P7
  have Q8 := (c8.v hF m16 (nez (by decide))).trans v7
  have U8 := (c8.v hF mw3 d6).trans U7
  have b8 := pb (x := A) (y := Q2) ⟨A0, hA⟩ ⟨Q2n, Q2b⟩
  have s11 : sz M91 (z + 11) ≤ a + S := F8.szv m11 (by rw [v8]; exact b8)
  rw [w0, r5]
  refine ⟨H8.1, k2, k1, F8.kd mw1, (f_put1 (d := d + 3) H8.1 F8 mw1 m11 d3 (Nat.le_trans s11 iw1)).mono (fun M97 g => ?_)⟩
  obtain ⟨c9, v9⟩ := g
  obtain ⟨n9, H9⟩ := H8.st tw1 c9
  have N9 := N8.trans n9
  have X9 := (N9.num hF mf1 d9).2.2
  refine ⟨H9.1, s_wgD (d := d) (Q1 := Q1) (Q2 := Q2) (A := A) (U := U) H9 dw hsh b8 U0 hU (by rw [X9]; exact X0) (by rw [X9]; exact hFa) Q1n Q1b Q2n Q2b (v9.trans v8) ((c9.v F8 mw3 (nez (by decide))).trans U8) ((c9.v F8 m14 (fun e => d4 e.symm)).trans P8) ((c9.v F8 m16 (fun e => d5 e.symm)).trans Q8) hW0 b1 b2 hB (fun M' g1 g2 g3 => ?_)⟩
  rw [X9] at g2
  exact hQ M' (N9.trans g1) g2 g3
/-- the second quotient -/
theorem s_wgB {Q : mM → Prop} {Q1 A U V R : Int} {r : Nat} (h : Wsc L W z w f M) (dw : Dwg z w f) (hsh : 0 ≤ sh ∧ sh < 1073741824) (A0 : 0 ≤ A) (hA : A < 2 ^ (30 * a)) (U0 : 0 ≤ U) (hU : U < 2 ^ (30 * u)) (X0 : 0 ≤ nv M (f + 1)) (hFa : nv M (f + 1) < 2 ^ (30 * S)) (V4 : nv M (f + 3) = V) (hV : V < 2 ^ (30 * S)) (Q1n : 0 ≤ Q1) (Q1b : Q1 < 2 ^ (30 * u)) (A7 : nv M (w + 1) = A) (U7 : nv M (w + 3) = U) (v4 : nv M (z + 14) = Q1) (er : r = z + 1 ∨ r = z + 3) (R4 : nv M r = R) (r0 : 0 < R) (rB : R < 2 ^ (30 * (u + S))) (rd2 : R ∣ V) (hW : ∀ x, Twg z w x → B ≤ W x) (b1 : a + S + 3 ≤ B) (b2 : u + S + 3 ≤ B) (hB : B ≤ 16000)
    (hQ : ∀ M' Q2, NL L W (Twg z w) (fun _ => False) False z M M' → nv M' (w + 1) = A * Q2 + sh * (nv M (f + 1) * Q1) → nv M' (w + 3) = U * Q2 → V = R * Q2 → 0 ≤ Q2 → Q M') : mK M z = 9 ∧ mK M f = 11 ∧ mK M (mR M z 8) = 10 ∧ Cv G y_Na_put1 (d + 4) [vr (mR M z 8), vr (mR M f 1)] M (fun M75 => mOk M75 ∧ (mK M75 z = 9 ∧ mK M75 (mR M75 z 8) = 10 ∧ Cv G y_Na_divide (d + 4) [vr (mR M75 z 8), vr r, vr (mR M75 z 2), vr (mR M75 z 3)] M75 (fun M80 => mOk M80 ∧ (mK M80 z = 9 ∧ mK M80 (mR M80 z 8) = 10 ∧ Cv G y_Na_put1 (d + 4) [vr (mR M80 z 8), vr (mR M80 z 2)] M80 (fun M85 => mOk M85 ∧ (mK M85 z = 9 ∧ mK M85 w = 11 ∧ mK M85 (mR M85 z 5) = 10 ∧ Cv G y_Na_putProduct (d + 4) [vr (mR M85 z 5), vr (mR M85 w 0), vr (mR M85 z 8)] M85 (fun M91 => mOk M91 ∧ (mK M91 w = 11 ∧ mK M91 z = 9 ∧ mK M91 (mR M91 w 0) = 10 ∧ Cv G y_Na_put1 (d + 4) [vr (mR M91 w 0), vr (mR M91 z 5)] M91 (fun M97 => mOk M97 ∧ (mK M97 z = 9 ∧ mK M97 f = 11 ∧ mK M97 (mR M97 z 5) = 10 ∧ Cv G y_Na_putProduct (d + 4) [vr (mR M97 z 5), vr (mR M97 f 0), vr (mR M97 z 7)] M97 (fun M103 => mOk M103 ∧ (mK M103 w = 11 ∧ mK M103 z = 9 ∧ mK M103 (mR M103 w 0) = 10 ∧ Cv G y_Na_add (d + 4) [vr (mR M103 w 0), vr (mR M103 z 5), vi sh] M103 (fun M109 => mOk M109 ∧ (mK M109 z = 9 ∧ mK M109 w = 11 ∧ mK M109 (mR M109 z 5) = 10 ∧ Cv G y_Na_putProduct (d + 4) [vr (mR M109 z 5), vr (mR M109 w 1), vr (mR M109 z 8)] M109 (fun M115 => mOk M115 ∧ (mK M115 w = 11 ∧ mK M115 z = 9 ∧ mK M115 (mR M115 w 1) = 10 ∧ Cv G y_Na_put1 (d + 4) [vr (mR M115 w 1), vr (mR M115 z 5)] M115 (fun M121 => mOk M121 ∧ (Q M121)))))))))))))))))) := by
  have hW0 := hW
  obtain ⟨⟨d1, d2, d3, d4, d5, d6, d7, d8⟩, d9, d10, d11⟩ := id dw
  obtain ⟨hO, hF, hS, hw, hf⟩ := id h
  obtain ⟨⟨k1, k2, k3⟩, ⟨r2, r3, r5, r7, r8⟩, ⟨w0, w1⟩, ⟨f0, f1⟩, m5, m7, m11, m14, m16, mw1, mw3, mf1, mf3⟩ := h.pl
  have t5 : Twg z w (z + 5) := Or.inl (Or.inr (Or.inr (Or.inl rfl)))
  have t7 : Twg z w (z + 7) := Or.inl (Or.inr (Or.inr (Or.inr rfl)))
  have t11 : Twg z w (z + 11) := Or.inr (Or.inl rfl)
  have t14 : Twg z w (z + 14) := Or.inr (Or.inr (Or.inl rfl))
  have t16 : Twg z w (z + 16) := Or.inr (Or.inr (Or.inr (Or.inl rfl)))
  have tw1 : Twg z w (w + 1) := Or.inr (Or.inr (Or.inr (Or.inr (Or.inl rfl))))
  have tw3 : Twg z w (w + 3) := Or.inr (Or.inr (Or.inr (Or.inr (Or.inr rfl))))
  have nf1 : ∀ x, Twg z w x → f + 1 ≠ x := fun x hx e => d9 (by rw [e]; exact hx)
  have nf3 : ∀ x, Twg z w x → f + 3 ≠ x := fun x hx e => d10 (by rw [e]; exact hx)
  obtain ⟨⟨i16, i4⟩, ⟨i14, i142, i5, i7⟩, ⟨j16, j162, j5⟩, ⟨i11, iw1, j11, iw11, jw11, l11, iw3⟩⟩ := wg_in (a := a) hW b1 b2 hB
  obtain ⟨⟨x1, x2⟩, ⟨x3, x4⟩, x5⟩ := dw.nx
  clear hW
  have tr : Twg z w r := Or.inl (er.elim Or.inl (fun e => Or.inr (Or.inl e)))
  have mr : r ∈ L := h.tw r tr
  obtain ⟨⟨rn5, rn7, rn14, rn16⟩, rx, ry⟩ := r_n er
  have svf := hF.szv mf3 (show nv M (f + 3) < 2 ^ (30 * S) by rw [V4]; exact hV)
  rw [r8, f1]
  refine ⟨k1, k3, hF.kd m16, (f_put1 (d := d + 3) hO hF m16 mf3 (fun e => nf3 _ t16 e.symm) (Nat.le_trans svf j16)).mono (fun M75 g => ?_)⟩
  obtain ⟨c5, v5⟩ := g
  obtain ⟨N5, H5⟩ := h.st t16 c5
  have F5 := H5.2.1
  obtain ⟨⟨k1, k2, k3⟩, ⟨r2, r3, r5, r7, r8⟩, ⟨w0, w1⟩, ⟨f0, f1⟩, -⟩ := H5.pl
  have R5 := (c5.v hF mr rn16).trans R4
  have P5 := (c5.v hF m14 (nez (by decide))).trans v4
  rw [V4] at v5
  have s16 : sz M75 (z + 16) ≤ S := F5.szv m16 (by rw [v5]; exact hV)
  have sr5 : sz M75 r ≤ u + S := F5.szv mr (by rw [R5]; exact rB)
  rw [r8, r2, r3]
  refine ⟨H5.1, k1, F5.kd m16, (f_divide (d := d + 1) H5.1 F5 m16 mr m5 m7 (fun e => rn16 e.symm) (nez (by decide)) (nez (by decide)) rn5 rn7 (nez (by decide)) (by rw [R5]; exact r0) (Nat.le_trans (Nat.add_le_add_right s16 2) j162) (Nat.le_trans (Nat.add_le_add_right s16 1) j5) (Nat.le_trans (Nat.add_le_add_right sr5 1) (Nat.le_of_succ_le i4.2.2.2))).mono (fun M80 g => ?_)⟩
  obtain ⟨c6, v6, l6⟩ := g
  obtain ⟨n6, H6⟩ := H5.st3 ⟨t16, t5, t7⟩ c6
  have N6 := N5.trans n6
  have F6 := H6.2.1
  obtain ⟨⟨k1, k2, k3⟩, ⟨r2, r3, r5, r7, r8⟩, ⟨w0, w1⟩, ⟨f0, f1⟩, -⟩ := H6.pl
  rw [v5, R5] at v6
  rw [R5] at l6
  have Q2n := F6.nn0 m5
  have EV := dv_ex r0 rd2 v6 ⟨F6.nn0 m16, l6⟩
  have P6 := ((c6.num F5 m14 x5).2.2.2.2.1).trans P5
  have Q2b := qb r0 Q2n EV hV
  have s5 : sz M80 (z + 5) ≤ S := F6.szv m5 Q2b
  rw [r8, r2]
  refine ⟨H6.1, k1, F6.kd m16, (f_put1 (d := d + 3) H6.1 F6 m16 m5 (nez (by decide)) (Nat.le_trans s5 j16)).mono (fun M85 g => ?_)⟩
  obtain ⟨c7, v7⟩ := g
  obtain ⟨n7, H7⟩ := H6.st t16 c7
  have N7 := N6.trans n7
  have P7 := (c7.v F6 m14 (nez (by decide))).trans P6
  have A7' : nv M85 (w + 1) = A := by
    rw [c7.v F6 mw1 d5, (c6.num F5 mw1 x2).2.2.2.2.1, c5.v hF mw1 d5, A7]
  have U7' : nv M85 (w + 3) = U := by
    rw [c7.v F6 mw3 d8, (c6.num F5 mw3 x4).2.2.2.2.1, c5.v hF mw3 d8, U7]
  have X7 := (N7.num hF mf1 d9).2.2
  refine ⟨H7.1, s_wgC (d := d) (Q2 := nv M80 (z + 5)) H7 dw hsh A0 hA U0 hU (by rw [X7]; exact X0) (by rw [X7]; exact hFa) Q1n Q1b Q2n Q2b A7' U7' P7 v7 hW0 b1 b2 hB (fun M' g1 g2 g3 => ?_)⟩
  rw [X7] at g2
  exact hQ M' (nv M80 (z + 5)) (N7.trans g1) g2 g3 EV Q2n
/-- the sum over two different numbers below -/
theorem s_wgDiff {Q : mM → Prop} (h : Wsc L W z w f M) (dw : Dwg z w f) (hsh : 0 ≤ sh ∧ sh < 1073741824) (UV : 0 < nv M (w + 3) ∨ 0 < nv M (f + 3)) (hA : nv M (w + 1) < 2 ^ (30 * a)) (hU : nv M (w + 3) < 2 ^ (30 * u)) (hV : nv M (f + 3) < 2 ^ (30 * S)) (hFa : nv M (f + 1) < 2 ^ (30 * S)) (hW : ∀ x, Twg z w x → B ≤ W x) (b1 : a + S + 3 ≤ B) (b2 : u + S + 3 ≤ B) (hB : B ≤ 16000)
    (hQ : ∀ M' Q1 Q2 r, NL L W (Twg z w) (fun _ => False) False z M M' → nv M' (w + 1) = nv M (w + 1) * Q2 + sh * (nv M (f + 1) * Q1) → nv M' (w + 3) = nv M (w + 3) * Q2 → nv M (w + 3) = r * Q1 → nv M (f + 3) = r * Q2 → 0 < r → 0 ≤ Q1 → 0 ≤ Q2 → Q M') : mK M w = 11 ∧ mK M f = 11 ∧ mK M z = 9 ∧ Cr G y_Sc_commonDivisor (d + 4) [vr z, vr (mR M w 1), vr (mR M f 1)] M (fun x54 M53 => mOk M53 ∧ (mK M53 z = 9 ∧ mK M53 w = 11 ∧ mK M53 (mR M53 z 7) = 10 ∧ Cv G y_Na_put1 (d + 4) [vr (mR M53 z 7), vr (mR M53 w 1)] M53 (fun M59 => mOk M59 ∧ (mK M59 z = 9 ∧ mK M59 (mR M59 z 7) = 10 ∧ Cv G y_Na_divide (d + 4) [vr (mR M59 z 7), vr x54, vr (mR M59 z 2), vr (mR M59 z 3)] M59 (fun M64 => mOk M64 ∧ (mK M64 z = 9 ∧ mK M64 (mR M64 z 7) = 10 ∧ Cv G y_Na_put1 (d + 4) [vr (mR M64 z 7), vr (mR M64 z 2)] M64 (fun M69 => mOk M69 ∧ (mK M69 z = 9 ∧ mK M69 f = 11 ∧ mK M69 (mR M69 z 8) = 10 ∧ Cv G y_Na_put1 (d + 4) [vr (mR M69 z 8), vr (mR M69 f 1)] M69 (fun M75 => mOk M75 ∧ (mK M75 z = 9 ∧ mK M75 (mR M75 z 8) = 10 ∧ Cv G y_Na_divide (d + 4) [vr (mR M75 z 8), vr x54, vr (mR M75 z 2), vr (mR M75 z 3)] M75 (fun M80 => mOk M80 ∧ (mK M80 z = 9 ∧ mK M80 (mR M80 z 8) = 10 ∧ Cv G y_Na_put1 (d + 4) [vr (mR M80 z 8), vr (mR M80 z 2)] M80 (fun M85 => mOk M85 ∧ (mK M85 z = 9 ∧ mK M85 w = 11 ∧ mK M85 (mR M85 z 5) = 10 ∧ Cv G y_Na_putProduct (d + 4) [vr (mR M85 z 5), vr (mR M85 w 0), vr (mR M85 z 8)] M85 (fun M91 => mOk M91 ∧ (mK M91 w = 11 ∧ mK M91 z = 9 ∧ mK M91 (mR M91 w 0) = 10 ∧ Cv G y_Na_put1 (d + 4) [vr (mR M91 w 0), vr (mR M91 z 5)] M91 (fun M97 => mOk M97 ∧ (mK M97 z = 9 ∧ mK M97 f = 11 ∧ mK M97 (mR M97 z 5) = 10 ∧ Cv G y_Na_putProduct (d + 4) [vr (mR M97 z 5), vr (mR M97 f 0), vr (mR M97 z 7)] M97 (fun M103 => mOk M103 ∧ (mK M103 w = 11 ∧ mK M103 z = 9 ∧ mK M103 (mR M103 w 0) = 10 ∧ Cv G y_Na_add (d + 4) [vr (mR M103 w 0), vr (mR M103 z 5), vi sh] M103 (fun M109 => mOk M109 ∧ (mK M109 z = 9 ∧ mK M109 w = 11 ∧ mK M109 (mR M109 z 5) = 10 ∧ Cv G y_Na_putProduct (d + 4) [vr (mR M109 z 5), vr (mR M109 w 1), vr (mR M109 z 8)] M109 (fun M115 => mOk M115 ∧ (mK M115 w = 11 ∧ mK M115 z = 9 ∧ mK M115 (mR M115 w 1) = 10 ∧ Cv G y_Na_put1 (d + 4) [vr (mR M115 w 1), vr (mR M115 z 5)] M115 (fun M121 => mOk M121 ∧ (Q M121)))))))))))))))))))))))))) := by
  have hW0 := hW
  obtain ⟨⟨d1, d2, d3, d4, d5, d6, d7, d8⟩, d9, d10, d11⟩ := id dw
  obtain ⟨hO, hF, hS, hw, hf⟩ := id h
  obtain ⟨⟨k1, k2, k3⟩, ⟨r2, r3, r5, r7, r8⟩, ⟨w0, w1⟩, ⟨f0, f1⟩, m5, m7, m11, m14, m16, mw1, mw3, mf1, mf3⟩ := h.pl
  have t5 : Twg z w (z + 5) := Or.inl (Or.inr (Or.inr (Or.inl rfl)))
  have t7 : Twg z w (z + 7) := Or.inl (Or.inr (Or.inr (Or.inr rfl)))
  have t11 : Twg z w (z + 11) := Or.inr (Or.inl rfl)
  have t14 : Twg z w (z + 14) := Or.inr (Or.inr (Or.inl rfl))
  have t16 : Twg z w (z + 16) := Or.inr (Or.inr (Or.inr (Or.inl rfl)))
  have tw1 : Twg z w (w + 1) := Or.inr (Or.inr (Or.inr (Or.inr (Or.inl rfl))))
  have tw3 : Twg z w (w + 3) := Or.inr (Or.inr (Or.inr (Or.inr (Or.inr rfl))))
  have nf1 : ∀ x, Twg z w x → f + 1 ≠ x := fun x hx e => d9 (by rw [e]; exact hx)
  have nf3 : ∀ x, Twg z w x → f + 3 ≠ x := fun x hx e => d10 (by rw [e]; exact hx)
  obtain ⟨⟨i16, i4⟩, ⟨i14, i142, i5, i7⟩, ⟨j16, j162, j5⟩, ⟨i11, iw1, j11, iw11, jw11, l11, iw3⟩⟩ := wg_in (a := a) hW b1 b2 hB
  obtain ⟨⟨x1, x2⟩, ⟨x3, x4⟩, x5⟩ := dw.nx
  clear hW
  have suw := hF.szv mw3 hU
  have svf := hF.szv mf3 hV
  rw [w1, f1]
  refine ⟨k2, k3, k1, (f_common (d := d) (S := u + S) hO hF hS mw3 mf3 d2 (fun e => d10 (Or.inl e)) UV (Nat.le_trans suw (Nat.le_add_right _ _)) (Nat.le_trans svf (Nat.le_add_left _ _)) i16 i4).mono (fun r M53 g => ?_)⟩
  obtain ⟨er, N53, r0, rd1, rd2, -⟩ := g
  have N1 : NL L W (Twg z w) (fun _ => False) False z M M53 := N53.mono hF (fun t ht => Or.inl ht) h.tw (fun _ e => e) noI (fun e => e)
  have H1 := h.nl N1
  have tr : Twg z w r := Or.inl (er.elim Or.inl (fun e => Or.inr (Or.inl e)))
  have mr : r ∈ L := h.tw r tr
  obtain ⟨⟨rn5, rn7, rn14, rn16⟩, rx, ry⟩ := r_n er
  obtain ⟨⟨k1, k2, k3⟩, ⟨r2, r3, r5, r7, r8⟩, ⟨w0, w1⟩, ⟨f0, f1⟩, -⟩ := H1.pl
  have A1 := (N53.num hF mw1 d1).2.2
  have U1 := (N53.num hF mw3 d2).2
  have F1 := H1.2.1
  have rB : nv M53 r < 2 ^ (30 * (u + S)) := by
    rcases UV with q | q
    · exact Int.lt_of_le_of_lt (Int.le_of_dvd q rd1) (Int.lt_of_lt_of_le hU (p30m (Nat.le_add_right _ _)))
    · exact Int.lt_of_le_of_lt (Int.le_of_dvd q rd2) (Int.lt_of_lt_of_le hV (p30m (Nat.le_add_left _ _)))
  have sr : sz M53 r ≤ u + S := F1.szv mr rB
  have U0 := hF.nn0 mw3
  rw [r7, w1]
  refine ⟨H1.1, k1, k2, F1.kd m14, (f_put1 (d := d + 3) H1.1 F1 m14 mw3 (fun e => d7 e.symm) (by rw [U1.1]; exact Nat.le_trans suw i14)).mono (fun M59 g => ?_)⟩
  obtain ⟨c2, v2⟩ := g
  obtain ⟨n2, H2⟩ := H1.st t14 c2
  have N2 := N1.trans n2
  have F2 := H2.2.1
  obtain ⟨⟨k1, k2, k3⟩, ⟨r2, r3, r5, r7, r8⟩, ⟨w0, w1⟩, ⟨f0, f1⟩, -⟩ := H2.pl
  have R2 := c2.v F1 mr rn14
  rw [U1.2] at v2
  have s14 : sz M59 (z + 14) ≤ u := F2.szv m14 (by rw [v2]; exact hU)
  have sr2 : sz M59 r ≤ u + S := by rw [(c2.num F1 mr rn14).2.2.2.1]; exact sr
  rw [r7, r2, r3]
  refine ⟨H2.1, k1, F2.kd m14, (f_divide (d := d + 1) H2.1 F2 m14 mr m5 m7 (fun e => rn14 e.symm) (nez (by decide)) (nez (by decide)) rn5 rn7 (nez (by decide)) (by rw [R2]; exact r0) (Nat.le_trans (Nat.add_le_add_right s14 2) i142) (Nat.le_trans (Nat.add_le_add_right s14 1) i5) (Nat.le_trans (Nat.add_le_add_right sr2 1) (Nat.le_of_succ_le i4.2.2.2))).mono (fun M64 g => ?_)⟩
  obtain ⟨c3, v3, l3⟩ := g
  obtain ⟨n3, H3⟩ := H2.st3 ⟨t14, t5, t7⟩ c3
  have N3 := N2.trans n3
  have F3 := H3.2.1
  obtain ⟨⟨k1, k2, k3⟩, ⟨r2, r3, r5, r7, r8⟩, ⟨w0, w1⟩, ⟨f0, f1⟩, -⟩ := H3.pl
  rw [v2, R2] at v3
  rw [R2] at l3
  have Q1n := F3.nn0 m5
  have EU := dv_ex r0 rd1 v3 ⟨F3.nn0 m14, l3⟩
  have R3 := ((c3.num F2 mr rx).2.2.2.2.1).trans R2
  have Q1b := qb r0 Q1n EU hU
  have s5 : sz M64 (z + 5) ≤ u := F3.szv m5 Q1b
  rw [r7, r2]
  refine ⟨H3.1, k1, F3.kd m14, (f_put1 (d := d + 3) H3.1 F3 m14 m5 (nez (by decide)) (Nat.le_trans s5 i14)).mono (fun M69 g => ?_)⟩
  obtain ⟨c4, v4⟩ := g
  obtain ⟨n4, H4⟩ := H3.st t14 c4
  have N4 := N3.trans n4
  have R4 := (c4.v F3 mr rn14).trans R3
  have V4 := (N4.num hF mf3 d10).2.2
  have X4 := (N4.num hF mf1 d9).2.2
  have A4 : nv M69 (w + 1) = nv M (w + 1) := by
    rw [c4.v F3 mw1 d4, (c3.num F2 mw1 x1).2.2.2.2.1, c2.v F1 mw1 d4, A1]
  have U4 : nv M69 (w + 3) = nv M (w + 3) := by
    rw [c4.v F3 mw3 d7, (c3.num F2 mw3 x3).2.2.2.2.1, c2.v F1 mw3 d7, U1.2]
  refine ⟨H4.1, s_wgB (d := d) (Q1 := nv M64 (z + 5)) H4 dw hsh (hF.nn0 mw1) hA U0 hU (by rw [X4]; exact hF.nn0 mf1) (by rw [X4]; exact hFa) V4 hV Q1n Q1b A4 U4 v4 er R4 r0 rB rd2 hW0 b1 b2 hB (fun M' Q2 g1 g2 g3 g4 g5 => ?_)⟩
  rw [X4] at g2
  exact hQ M' (nv M64 (z + 5)) Q2 (nv M53 r) (N4.trans g1) g2 g3 EU g4 r0 Q1n g5
end NAU
end
section
/-! The Scales: rows of fractions, and what weighing keeps. -/
theorem wg_A {A Q2 sh Fa Q1 P T k : Int} (hP : 0 < P) (hT : 0 < T) (hA0 : 0 ≤ A) (hA : A < k * (P * 1152921504606846976)) (h2 : 0 ≤ Q2) (h2' : Q2 ≤ T) (hs : 0 ≤ sh) (hs' : sh ≤ 1073741824) (hF : 0 ≤ Fa) (hF' : Fa ≤ T) (h1 : 0 ≤ Q1) (h1' : Q1 ≤ P * 1073741824) : A * Q2 + sh * (Fa * Q1) < (k + 1) * (P * T * 1152921504606846976) := by
  have a1 : A * Q2 ≤ A * T := Int.mul_le_mul_of_nonneg_left h2' hA0
  have a2 : A * T < k * (P * 1152921504606846976) * T := Int.mul_lt_mul_of_pos_right hA hT
  have a3 : Fa * Q1 ≤ T * Q1 := Int.mul_le_mul_of_nonneg_right hF' h1
  have a4 : T * Q1 ≤ T * (P * 1073741824) := Int.mul_le_mul_of_nonneg_left h1' (Int.le_of_lt hT)
  have a5 : sh * (Fa * Q1) ≤ 1073741824 * (Fa * Q1) := Int.mul_le_mul_of_nonneg_right hs' (Int.mul_nonneg hF h1)
  have e1 : k * (P * 1152921504606846976) * T = k * (P * T * 1152921504606846976) := by grind
  have e2 : T * (P * 1073741824) = P * T * 1073741824 := by grind
  rw [Int.add_mul, Int.one_mul, ← e1]
  omega
theorem wg_A2 {A sh Fa P T k : Int} (hP : 1 ≤ P) (hT : 1 ≤ T) (hk : 0 ≤ k) (hA : A < k * (P * 1152921504606846976)) (hs : 0 ≤ sh) (hs' : sh ≤ 1073741824) (hF : 0 ≤ Fa) (hF' : Fa ≤ T) : A + sh * Fa < (k + 1) * (P * T * 1152921504606846976) := by
  have a1 : sh * Fa ≤ 1073741824 * Fa := Int.mul_le_mul_of_nonneg_right hs' hF
  have a2 : P * 1 ≤ P * T := Int.mul_le_mul_of_nonneg_left hT (by omega)
  have a3 : 1 * T ≤ P * T := Int.mul_le_mul_of_nonneg_right hP (by omega)
  have a4 : k * (P * 1152921504606846976) ≤ k * (P * T * 1152921504606846976) := Int.mul_le_mul_of_nonneg_left (by omega) hk
  rw [Int.add_mul, Int.one_mul]
  omega
theorem wg_P {A Q2 sh Fa Q1 U V s r : Int} (h2 : 0 ≤ Q2) (h1 : 0 ≤ Q1) (hs : 0 ≤ sh) (hA : A ≤ s * U) (hF : Fa ≤ V) (eU : U = r * Q1) (eV : V = r * Q2) : A * Q2 + sh * (Fa * Q1) ≤ (s + sh) * (U * Q2) := by
  have a1 : A * Q2 ≤ s * U * Q2 := Int.mul_le_mul_of_nonneg_right hA h2
  have a2 : Fa * Q1 ≤ V * Q1 := Int.mul_le_mul_of_nonneg_right hF h1
  have a3 : sh * (Fa * Q1) ≤ sh * (V * Q1) := Int.mul_le_mul_of_nonneg_left a2 hs
  have e : V * Q1 = U * Q2 := by rw [eU, eV]; grind
  rw [e] at a3
  rw [Int.mul_assoc] at a1
  rw [Int.add_mul]
  omega
theorem wg_P2 {A sh Fa U s : Int} (hs : 0 ≤ sh) (hA : A ≤ s * U) (hF : Fa ≤ U) : A + sh * Fa ≤ (s + sh) * U := by
  have a3 : sh * Fa ≤ sh * U := Int.mul_le_mul_of_nonneg_left hF hs
  rw [Int.add_mul]
  omega
theorem wg_U {U Q2 P T : Int} (hT : 0 < T) (h0 : 0 ≤ U) (hU : U < P * 1073741824) (h2' : Q2 ≤ T) : U * Q2 < P * T * 1073741824 := by
  have a1 : U * Q2 ≤ U * T := Int.mul_le_mul_of_nonneg_left h2' h0
  have a2 : U * T < P * 1073741824 * T := Int.mul_lt_mul_of_pos_right hU hT
  have e : P * 1073741824 * T = P * T * 1073741824 := by grind
  omega
section NAV
variable {G : mG} {d b c z n m w S x y B u g a R cn bc i j mu : Nat} {M M0 M' M1 M2 M3 : mM} {L : List Nat} {W : Nat → Nat} {T T' I I' : Nat → Prop} {r r' : Prop} {sh : Int}
/-- a table of fractions: R its rows -/
def Rws (L : List Nat) (M : mM) (a R cn : Nat) : Prop := mK M a = 13 ∧ mR M a 0 = R ∧ mK M R = 35 ∧ cn ≤ mN M R ∧ (Oc L M a ∧ Oc L M R) ∧ ∀ i, i < cn → FrL L M (mR M R i)
/-- the rows' numbers are small -/
def Rsm (M : mM) (R cn S : Nat) : Prop := ∀ i, i < cn → 0 ≤ nv M (mR M R i + 3) ∧ nv M (mR M R i + 3) < 2 ^ (30 * S) ∧ nv M (mR M R i + 1) < 2 ^ (30 * S)
/-- no row is above 1 -/
def Rle (M : mM) (R cn : Nat) : Prop := ∀ i, i < cn → nv M (mR M R i + 1) ≤ nv M (mR M R i + 3) ∧ 0 < nv M (mR M R i + 3)
/-- the game's tables as far as they are read here -/
def GK9 (M : mM) (g : Nat) : Prop := mK M g = 7 ∧ (mR M g 2 = g + 2 ∧ mR M g 4 = g + 4 ∧ mR M g 6 = g + 6 ∧ mR M g 7 = g + 7 ∧ mR M g 8 = g + 8 ∧ mR M g 9 = g + 9) ∧ (∀ i, 1 ≤ i → i ≤ 9 → mK M (g + i) = 30) ∧ (mN M (g + 2) = 512 ∧ mN M (g + 4) = 513 ∧ mN M (g + 6) = 4097 ∧ mN M (g + 7) = 4098 ∧ mN M (g + 8) = 4096 ∧ mN M (g + 9) = 4096)
theorem GK.g9 (h : GK M g) : GK9 M g := by
  obtain ⟨h1, ⟨-, r2, -, r4, -, r6, r7, r8, r9, -⟩, ⟨k1, k2, k3, k4, k5, k6, k7, k8, k9, -⟩, ⟨-, n2, -, n4, -, n6, n7, n8, n9, -⟩⟩ := h
  refine ⟨h1, ⟨r2, r4, r6, r7, r8, r9⟩, fun i hi hi' => ?_, n2, n4, n6, n7, n8, n9⟩
  rcases (show i = 1 ∨ i = 2 ∨ i = 3 ∨ i = 4 ∨ i = 5 ∨ i = 6 ∨ i = 7 ∨ i = 8 ∨ i = 9 by omega) with e | e | e | e | e | e | e | e | e <;> rw [e] <;> assumption
/-- where weighing works, with the tables alone -/
def We (L : List Nat) (W : Nat → Nat) (z w g a R cn : Nat) (M : mM) : Prop := (mOk M ∧ NF L W M ∧ SK L M z ∧ FrL L M w) ∧ (GK9 M g ∧ ∀ i, i ≤ 9 → Oc L M (g + i)) ∧ Rws L M a R cn ∧ ∀ i, i < cn → Dwg z w (mR M R i)
theorem GK9.kd (h : GK9 M g) (hi : i ≤ 9) : mK M (g + i) ≠ 9 ∧ mK M (g + i) ≠ 11 := by
  by_cases e : i = 0
  · rw [e, Nat.add_zero, h.1]; decide
  · rw [h.2.2.1 i (by omega) hi]; decide
theorem Rws.kd (h : Rws L M a R cn) : (mK M a ≠ 9 ∧ mK M a ≠ 11) ∧ (mK M R ≠ 9 ∧ mK M R ≠ 11) := by
  rw [h.1, h.2.2.1]; decide
theorem We.tb (h : We L W z w g a R cn M) (k : NL L W T I r z M M') (hI : ∀ x, I x → mK M x = 11) : GK9 M' g ∧ (∀ i, i ≤ 9 → Oc L M' (g + i)) ∧ (∀ i, i ≤ 9 → mI M' (g + i) = mI M (g + i)) ∧ Rws L M' a R cn ∧ mR M' R = mR M R := by
  obtain ⟨⟨h1, h2, h3, h4⟩, ⟨h5, h6⟩, h7, h8⟩ := h
  have z9 := h3.1.1
  have ox : ∀ x, Oc L M x → mK M x ≠ 9 → mK M x ≠ 11 → mK M' x = mK M x ∧ mN M' x = mN M x ∧ mR M' x = mR M x ∧ mI M' x = mI M x := by
    intro x hx k9 k11
    obtain ⟨a1, a2, a3, a4⟩ := k.oth hx (fun e => by rw [e] at k9; exact k9 z9)
    exact ⟨a1, a2, a3, a4 (fun e => k11 (hI x e))⟩
  have og := fun i (hi : i ≤ 9) => ox (g + i) (h6 i hi) (h5.kd hi).1 (h5.kd hi).2
  obtain ⟨q1, q2, q3, q4, ⟨q5, q6⟩, q7⟩ := id h7
  obtain ⟨⟨ka1, ka2⟩, kb1, kb2⟩ := h7.kd
  have oa := ox a q5 ka1 ka2
  have oR := ox R q6 kb1 kb2
  have g0 := og 0 (by decide)
  rw [Nat.add_zero] at g0
  refine ⟨⟨by rw [g0.1]; exact h5.1, by rw [g0.2.2.1]; exact h5.2.1, fun i hi hi' => by rw [(og i hi').1]; exact h5.2.2.1 i hi hi', ?_⟩, fun i hi => k.oc h2 (h6 i hi), fun i hi => (og i hi).2.2.2, ⟨by rw [oa.1]; exact q1, by rw [oa.2.2.1]; exact q2, by rw [oR.1]; exact q3, by rw [oR.2.1]; exact q4, ⟨k.oc h2 q5, k.oc h2 q6⟩, fun i hi => by rw [oR.2.2.1]; exact k.frl h2 (q7 i hi)⟩, oR.2.2.1⟩
  rw [(og 2 (by decide)).2.1, (og 4 (by decide)).2.1, (og 6 (by decide)).2.1, (og 7 (by decide)).2.1, (og 8 (by decide)).2.1, (og 9 (by decide)).2.1]
  exact h5.2.2.2
theorem We.nl (h : We L W z w g a R cn M) (k : NL L W (Twg z w) (fun x => x = w) False z M M') : We L W z w g a R cn M' ∧ (∀ i, i ≤ 9 → mI M' (g + i) = mI M (g + i)) ∧ mR M' R = mR M R ∧ ∀ i, i < cn → nv M' (mR M R i + 1) = nv M (mR M R i + 1) ∧ nv M' (mR M R i + 3) = nv M (mR M R i + 3) := by
  obtain ⟨⟨h1, h2, h3, h4⟩, ⟨h5, h6⟩, h7, h8⟩ := id h
  obtain ⟨t1, t2, t3, t4, t5⟩ := h.tb k (fun x e => by rw [e]; exact h4.1.1)
  refine ⟨⟨⟨k.ok, k.nf, k.sk h2 h3, k.frl h2 h4⟩, ⟨t1, t2⟩, t4, fun i hi => by rw [t5]; exact h8 i hi⟩, t3, t5, fun i hi => ?_⟩
  have hf := h7.2.2.2.2.2 i hi
  have dw := (h8 i hi).2
  exact ⟨(k.num h2 hf.2.1 dw.1).2.2, (k.num h2 hf.2.2 dw.2.1).2.2⟩
theorem We.ws (h : We L W z w g a R cn M) (hi : i < cn) : Wsc L W z w (mR M R i) M := ⟨h.1.1, h.1.2.1, h.1.2.2.1, h.1.2.2.2, h.2.2.1.2.2.2.2.2 i hi⟩
/-- what weighing leaves behind -/
def wgQ (L : List Nat) (W : Nat → Nat) (z w : Nat) (R cn S : Nat) (mu : Int) (M M' : mM) : Prop := NL L W (Twg z w) (fun x => x = w) False z M M' ∧ (0 ≤ nv M' (w + 3) ∧ nv M' (w + 3) < 2 ^ (30 * (8 * S + 1))) ∧ nv M' (w + 1) < 2 ^ (30 * (8 * S + 3)) ∧ mI M' w 2 = mu ∧ (Rle M R cn → nv M' (w + 1) ≤ mu * nv M' (w + 3) ∧ 0 < nv M' (w + 3))
/-- on the way: j branches are done -/
def wgI (M0 : mM) (R cn : Nat) (w S j : Nat) (sm : Int) (M : mM) : Prop := (0 ≤ nv M (w + 3) ∧ nv M (w + 3) < 2 ^ (30 * (S * j)) * 1073741824) ∧ nv M (w + 1) < ((j : Int) + 1) * (2 ^ (30 * (S * j)) * 1152921504606846976) ∧ (Rle M0 R cn → nv M (w + 1) ≤ sm * nv M (w + 3) ∧ 0 < nv M (w + 3))
theorem wg_skip {sm : Int} (h : wgI M0 R cn w S j sm M) (hs : 0 ≤ sh) (h1 : 0 ≤ nv M (w + 1)) : wgI M0 R cn w S (j + 1) (sm + sh) M := by
  obtain ⟨⟨u0, u1⟩, a1, p⟩ := h
  have e : (2 : Int) ^ (30 * (S * (j + 1))) = 2 ^ (30 * (S * j)) * 2 ^ (30 * S) := by rw [← p30a, Nat.mul_add, Nat.mul_one]
  have t1 : (1 : Int) ≤ 2 ^ (30 * S) := p30p S
  have t2 : (1 : Int) ≤ 2 ^ (30 * (S * j)) := p30p (S * j)
  have := wg_A2 (A := nv M (w + 1)) (sh := 0) (Fa := 0) (P := 2 ^ (30 * (S * j))) (T := 2 ^ (30 * S)) (k := (j : Int) + 1) t2 t1 (by omega) a1 (by omega) (by omega) (by omega) (by omega)
  have t3 := Int.mul_le_mul_of_nonneg_left t1 (show (0 : Int) ≤ 2 ^ (30 * (S * j)) by omega)
  unfold wgI
  rw [e]
  refine ⟨⟨u0, by omega⟩, ?_, fun q => ?_⟩
  · rw [show (((j + 1 : Nat) : Int) + 1) = (j : Int) + 1 + 1 by omega]
    omega
  · obtain ⟨p1, p2⟩ := p q
    have := wg_P2 (Fa := 0) hs p1 (by omega)
    exact ⟨by omega, p2⟩
theorem wg_same {sm Fa : Int} (h : wgI M0 R cn w S j sm M) (hs : 0 ≤ sh ∧ sh < 1073741824) (e1 : nv M' (w + 1) = nv M (w + 1) + sh * Fa) (e3 : nv M' (w + 3) = nv M (w + 3)) (hF : 0 ≤ Fa ∧ Fa < 2 ^ (30 * S)) (hV : Rle M0 R cn → Fa ≤ nv M (w + 3)) : wgI M0 R cn w S (j + 1) (sm + sh) M' := by
  obtain ⟨⟨u0, u1⟩, a1, p⟩ := h
  have e : (2 : Int) ^ (30 * (S * (j + 1))) = 2 ^ (30 * (S * j)) * 2 ^ (30 * S) := by rw [← p30a, Nat.mul_add, Nat.mul_one]
  have t1 : (1 : Int) ≤ 2 ^ (30 * S) := p30p S
  have t2 : (1 : Int) ≤ 2 ^ (30 * (S * j)) := p30p (S * j)
  have := wg_A2 (A := nv M (w + 1)) (sh := sh) (Fa := Fa) (P := 2 ^ (30 * (S * j))) (T := 2 ^ (30 * S)) (k := (j : Int) + 1) t2 t1 (by omega) a1 hs.1 (by omega) hF.1 (by omega)
  have t3 := Int.mul_le_mul_of_nonneg_left t1 (show (0 : Int) ≤ 2 ^ (30 * (S * j)) by omega)
  unfold wgI
  rw [e, e1, e3]
  refine ⟨⟨u0, by omega⟩, ?_, fun q => ⟨wg_P2 hs.1 (p q).1 (hV q), (p q).2⟩⟩
  rw [show (((j + 1 : Nat) : Int) + 1) = (j : Int) + 1 + 1 by omega]
  exact this
theorem wg_diff {sm Fa V Q1 Q2 r : Int} (h : wgI M0 R cn w S j sm M) (hA0 : 0 ≤ nv M (w + 1)) (hs : 0 ≤ sh ∧ sh < 1073741824) (e1 : nv M' (w + 1) = nv M (w + 1) * Q2 + sh * (Fa * Q1)) (e3 : nv M' (w + 3) = nv M (w + 3) * Q2) (eU : nv M (w + 3) = r * Q1) (eV : V = r * Q2) (hr : 0 < r) (hV : 0 ≤ V ∧ V < 2 ^ (30 * S)) (h1 : 0 ≤ Q1) (h2 : 0 ≤ Q2) (hF : 0 ≤ Fa ∧ Fa < 2 ^ (30 * S)) (hle : Rle M0 R cn → Fa ≤ V ∧ 0 < V) : wgI M0 R cn w S (j + 1) (sm + sh) M' := by
  obtain ⟨⟨u0, u1⟩, a1, p⟩ := h
  have e : (2 : Int) ^ (30 * (S * (j + 1))) = 2 ^ (30 * (S * j)) * 2 ^ (30 * S) := by rw [← p30a, Nat.mul_add, Nat.mul_one]
  have t1 : (0 : Int) < 2 ^ (30 * S) := p30p S
  have t2 : (0 : Int) < 2 ^ (30 * (S * j)) := p30p (S * j)
  have q2 : Q2 ≤ V := by rw [eV]; have := Int.mul_le_mul_of_nonneg_right (show 1 ≤ r by omega) h2; omega
  have q1 : Q1 ≤ nv M (w + 3) := by rw [eU]; have := Int.mul_le_mul_of_nonneg_right (show 1 ≤ r by omega) h1; omega
  have q20 : 0 < V → 0 < Q2 := fun vp => Classical.byContradiction (fun u => by
    have : Q2 = 0 := by omega
    rw [this, Int.mul_zero] at eV
    omega)
  have w1 := wg_A (A := nv M (w + 1)) (Q2 := Q2) (sh := sh) (Fa := Fa) (Q1 := Q1) (P := 2 ^ (30 * (S * j))) (T := 2 ^ (30 * S)) (k := (j : Int) + 1) t2 t1 hA0 a1 h2 (by omega) hs.1 (by omega) hF.1 (by omega) h1 (by omega)
  have w3 := wg_U (Q2 := Q2) t1 u0 u1 (by omega)
  unfold wgI
  rw [e, e1, e3]
  refine ⟨⟨Int.mul_nonneg u0 h2, w3⟩, ?_, fun q => ⟨wg_P h2 h1 hs.1 (p q).1 (hle q).1 eU eV, Int.mul_pos (p q).2 (q20 (hle q).2)⟩⟩
  rw [show (((j + 1 : Nat) : Int) + 1) = (j : Int) + 1 + 1 by omega]
  exact w1
end NAV
end
section
/-! The Scales: what weighing comes to, as a number. -/
section WVS
variable {M0 M M' : mM} {R g x y c w f n m t j cn bc : Nat} {sh : Int} {v fv' : Rat}
/-- a row's number -/
def rwv (M : mM) (R t : Nat) : Rat := (nv M (mR M R t + 1) : Rat) * (nv M (mR M R t + 3) : Rat)⁻¹
/-- shares times rows -/
def wsv (M : mM) (R g x : Nat) : Nat → Rat
  | 0 => 0
  | n + 1 => wsv M R g x n + (mI M (g + 9) (x + n) : Rat) * rwv M R (mI M (g + 8) (x + n)).toNat
/-- a fraction's number -/
def fq9 (M : mM) (f : Nat) : Rat := (nv M (f + 1) : Rat) * ((mI M f 2 * nv M (f + 3) : Int) : Rat)⁻¹
theorem wsL_snoc {f : Nat → Rat} {b : Nat × Int} : ∀ l : List (Nat × Int), wsL9 f (l ++ [b]) = wsL9 f l + (b.2 : Rat) * f b.1
  | [] => by
    show (b.2 : Rat) * f b.1 + 0 = 0 + (b.2 : Rat) * f b.1
    grind
  | a :: l => by
    have h := wsL_snoc (f := f) (b := b) l
    show (a.2 : Rat) * f a.1 + wsL9 f (l ++ [b]) = ((a.2 : Rat) * f a.1 + wsL9 f l) + (b.2 : Rat) * f b.1
    rw [h]
    grind
theorem wsL_brl : ∀ n, wsL9 (rwv M R) (brl M g x n) = wsv M R g x n
  | 0 => rfl
  | n + 1 => by
    have h := wsL_brl n
    show wsL9 (rwv M R) (brl M g x n ++ [((mI M (g + 8) (x + n)).toNat, mI M (g + 9) (x + n))]) = wsv M R g x n + (mI M (g + 9) (x + n) : Rat) * rwv M R (mI M (g + 8) (x + n)).toNat
    rw [wsL_snoc, h]
theorem cmm_ws (e1 : mI M (g + 7) c = ((x : Nat) : Int)) (e2 : mI M (g + 7) (c + 1) = ((y : Nat) : Int)) : wsL9 (rwv M R) (cmm M g c).2.2 = wsv M R g x (y - x) := by
  show wsL9 (rwv M R) (brl M g (mI M (g + 7) c).toNat ((mI M (g + 7) (c + 1)).toNat - (mI M (g + 7) c).toNat)) = wsv M R g x (y - x)
  rw [e1, e2, Int.toNat_natCast, Int.toNat_natCast]
  exact wsL_brl _
theorem brl_same (e : ∀ i, i ≤ 9 → mI M' (g + i) = mI M (g + i)) : ∀ n, brl M' g x n = brl M g x n
  | 0 => rfl
  | n + 1 => by
    have h := brl_same e n
    show brl M' g x n ++ [((mI M' (g + 8) (x + n)).toNat, mI M' (g + 9) (x + n))] = brl M g x n ++ [((mI M (g + 8) (x + n)).toNat, mI M (g + 9) (x + n))]
    rw [h, e 8 (by decide), e 9 (by decide)]
theorem cmm_same (e : ∀ i, i ≤ 9 → mI M' (g + i) = mI M (g + i)) : cmm M' g c = cmm M g c := by
  unfold cmm
  rw [e 5 (by decide), e 6 (by decide), e 7 (by decide), brl_same e]
theorem cmm_lt (h : cmdG M g cn bc c) : ∀ b, b ∈ (cmm M g c).2.2 → b.1 < cn := by
  obtain ⟨x, y, mu, c1, c2, c3, c4, c5, -⟩ := h
  intro b hb
  have bl : (cmm M g c).2.2 = (List.range (y - x)).map (fun t => ((mI M (g + 8) (x + t)).toNat, mI M (g + 9) (x + t))) := by
    unfold cmm
    rw [c1, c2, Int.toNat_natCast, Int.toNat_natCast, brl_map]
  rw [bl] at hb
  obtain ⟨t, t1, t2⟩ := List.mem_map.mp hb
  have t3 := List.mem_range.mp t1
  have t4 := c5 (x + t) (by omega) (by omega)
  rw [← t2]
  show (mI M (g + 8) (x + t)).toNat < cn
  omega
theorem rwv_mul (h : 0 < nv M (mR M R t + 3)) : (nv M (mR M R t + 1) : Rat) = rwv M R t * (nv M (mR M R t + 3) : Rat) := by
  have e := Rat.inv_mul_cancel _ (ic_ne h)
  unfold rwv
  generalize (nv M (mR M R t + 3) : Rat) = b at *
  generalize (nv M (mR M R t + 1) : Rat) = a at *
  generalize b⁻¹ = c at *
  grind
theorem rwv_cg (eR : mR M' R = mR M R) (e1 : nv M' (mR M R j + 1) = nv M (mR M R j + 1)) (e3 : nv M' (mR M R j + 3) = nv M (mR M R j + 3)) : rwv M' R j = rwv M R j := by
  unfold rwv
  rw [eR, e1, e3]
/-- a fraction crossed -/
theorem rat_cross {A V a b : Int} (hV : 0 < V) (e : a * V = A * b) : (A : Rat) * (V : Rat)⁻¹ * (b : Rat) = (a : Rat) := by
  have e1 : (a : Rat) * (V : Rat) = (A : Rat) * (b : Rat) := by rw [← Rat.intCast_mul, ← Rat.intCast_mul, e]
  have e2 := Rat.mul_inv_cancel _ (ic_ne hV)
  generalize (V : Rat)⁻¹ = i at *
  generalize (V : Rat) = V at *
  generalize (A : Rat) = A at *
  generalize (a : Rat) = a at *
  generalize (b : Rat) = b at *
  have e3 : A * i * b = a * (V * i) := by grind
  rw [e3, e2]
  grind
theorem fq_mul (h : 0 < mI M f 2 * nv M (f + 3)) : fq9 M f * ((mI M f 2 * nv M (f + 3) : Int) : Rat) = (nv M (f + 1) : Rat) := by
  unfold fq9
  exact rat_cross h rfl
/-- a worth on its way -/
def wgV (M0 : mM) (R cn w : Nat) (v : Rat) (M : mM) : Prop := Rle M0 R cn → (nv M (w + 1) : Rat) = v * (nv M (w + 3) : Rat)
theorem wv_skip {Fa V : Int} (h : wgV M0 R cn w v M) (e : Rle M0 R cn → (Fa : Rat) = fv' * (V : Rat)) (hF : Fa = 0) (hV : Rle M0 R cn → 0 < V) : wgV M0 R cn w (v + (sh : Rat) * fv') M := fun q => by
  have e1 := e q
  have e2 := Rat.mul_inv_cancel _ (ic_ne (hV q))
  have e3 : ((0 : Int) : Rat) = 0 := rfl
  rw [hF, e3] at e1
  have e4 : fv' = 0 := by
    generalize (V : Rat)⁻¹ = i at *
    generalize (V : Rat) = V at *
    have e5 : fv' * (V * i) = fv' * V * i := by grind
    rw [e2, ← e1] at e5
    grind
  rw [h q, e4]
  grind
theorem wv_same {Fa : Int} (h : wgV M0 R cn w v M) (e1 : nv M' (w + 1) = nv M (w + 1) + sh * Fa) (e3 : nv M' (w + 3) = nv M (w + 3)) (e : Rle M0 R cn → (Fa : Rat) = fv' * (nv M (w + 3) : Rat)) : wgV M0 R cn w (v + (sh : Rat) * fv') M' := fun q => by
  rw [e1, e3, Rat.intCast_add, Rat.intCast_mul, h q, e q]
  grind
theorem wv_diff {Fa V Q1 Q2 r : Int} (h : wgV M0 R cn w v M) (e1 : nv M' (w + 1) = nv M (w + 1) * Q2 + sh * (Fa * Q1)) (e3 : nv M' (w + 3) = nv M (w + 3) * Q2) (eU : nv M (w + 3) = r * Q1) (eV : V = r * Q2) (e : Rle M0 R cn → (Fa : Rat) = fv' * (V : Rat)) : wgV M0 R cn w (v + (sh : Rat) * fv') M' := fun q => by
  have h1 : (nv M' (w + 1) : Rat) = (nv M (w + 1) : Rat) * (Q2 : Rat) + (sh : Rat) * ((Fa : Rat) * (Q1 : Rat)) := by rw [e1, Rat.intCast_add, Rat.intCast_mul, Rat.intCast_mul, Rat.intCast_mul]
  have h3 : (nv M' (w + 3) : Rat) = (nv M (w + 3) : Rat) * (Q2 : Rat) := by rw [e3, Rat.intCast_mul]
  have hU : (nv M (w + 3) : Rat) = (r : Rat) * (Q1 : Rat) := by rw [eU, Rat.intCast_mul]
  have hV : (V : Rat) = (r : Rat) * (Q2 : Rat) := by rw [eV, Rat.intCast_mul]
  rw [h1, h3, h q, e q, hU, hV]
  grind
/-- a worth that was weighed, as a number -/
def BsV (M0 : mM) (R cn : Nat) (M : mM) (b : Nat) (v : Rat) : Prop := Rle M0 R cn → fq9 M b = v
theorem BsV.cg {b : Nat} (h : BsV M0 R cn M b v) (e1 : nv M' (b + 1) = nv M (b + 1)) (e3 : nv M' (b + 3) = nv M (b + 3)) (e2 : mI M' b = mI M b) : BsV M0 R cn M' b v := fun q => by
  have := h q
  unfold fq9 at this ⊢
  rw [e1, e3, e2]
  exact this
theorem wv_bs {mu : Int} (h : wgV M0 R cn w v M) (hm : 0 < mu) (tt : mI M w 2 = mu) (hU : Rle M0 R cn → 0 < nv M (w + 3)) : BsV M0 R cn M w (v * (mu : Rat)⁻¹) := fun q => by
  have e1 := Rat.mul_inv_cancel _ (ic_ne (hU q))
  have e2 := Rat.mul_inv_cancel _ (ic_ne hm)
  have e3 := Rat.mul_inv_cancel _ (ic_ne (Int.mul_pos hm (hU q)))
  unfold fq9
  rw [tt, h q]
  rw [Rat.intCast_mul] at e3 ⊢
  generalize ((mu : Rat) * (nv M (w + 3) : Rat))⁻¹ = k at *
  generalize (mu : Rat)⁻¹ = i at *
  generalize (nv M (w + 3) : Rat)⁻¹ = l at *
  generalize (nv M (w + 3) : Rat) = U at *
  generalize (mu : Rat) = m at *
  have e4 : v * U * k * (m * i) = v * i * (m * U * k) := by grind
  rw [e2, e3] at e4
  grind
/-- two numbers compared -/
def orR (p q : Rat) (x : Int) : Prop := (x = 0 ∧ p = q) ∨ (x = 1 ∧ q < p) ∨ (x = -1 ∧ p < q)
theorem orQ_mul {a b V x : Int} (hV : 0 < V) (h : orQ a b x) : orQ (a * V) (b * V) x := by
  rcases h with ⟨x0, e⟩ | ⟨x0, e⟩ | ⟨x0, e⟩
  · exact Or.inl ⟨x0, by rw [e]⟩
  · exact Or.inr (Or.inl ⟨x0, Int.mul_lt_mul_of_pos_right e hV⟩)
  · exact Or.inr (Or.inr ⟨x0, Int.mul_lt_mul_of_pos_right e hV⟩)
theorem or_rat {p q : Rat} {A B X Y x : Int} (hX : 0 < X) (hY : 0 < Y) (e1 : p * (X : Rat) = (A : Rat)) (e2 : q * (Y : Rat) = (B : Rat)) (o : orQ (A * Y) (B * X) x) : orR p q x := by
  have q1 : (0 : Rat) < (X : Rat) := Rat.intCast_pos.2 hX
  have q2 : (0 : Rat) < (Y : Rat) := Rat.intCast_pos.2 hY
  have hp := Rat.mul_pos q1 q2
  have c1 : ((A * Y : Int) : Rat) = p * ((X : Rat) * (Y : Rat)) := by rw [Rat.intCast_mul, ← e1]; grind
  have c2 : ((B * X : Int) : Rat) = q * ((X : Rat) * (Y : Rat)) := by rw [Rat.intCast_mul, ← e2]; grind
  clear e1 e2 q1 q2
  generalize (X : Rat) * (Y : Rat) = P at *
  have lt : ∀ {u w : Rat}, u * P < w * P → u < w := fun {u w} h => by
    refine Classical.byContradiction (fun n => ?_)
    have a := Rat.mul_nonneg (a := u - w) (b := P) (by grind) (Rat.le_of_lt hp)
    grind
  rcases o with ⟨x0, e⟩ | ⟨x0, e⟩ | ⟨x0, e⟩
  · refine Or.inl ⟨x0, ?_⟩
    have h' : ((A * Y : Int) : Rat) = ((B * X : Int) : Rat) := by rw [e]
    rw [c1, c2] at h'
    have i := Rat.mul_inv_cancel P (by grind)
    have e' : p * P * P⁻¹ = q * P * P⁻¹ := by rw [h']
    grind
  · refine Or.inr (Or.inl ⟨x0, lt ?_⟩)
    rw [← c1, ← c2]
    exact ic_lt.2 e
  · refine Or.inr (Or.inr ⟨x0, lt ?_⟩)
    rw [← c1, ← c2]
    exact ic_lt.2 e
end WVS
end
section
/-! The Scales: a command is weighed, the whole. -/
section NAW
variable {G : mG} {d b c z n m w S x y B u g a R cn bc i j mu : Nat} {M M0 M' M1 M2 M3 : mM} {L : List Nat} {W : Nat → Nat} {T T' I I' : Nat → Prop} {r r' : Prop} {sh : Int}
theorem wg_bits {v : Int} (h : v < 2 ^ (30 * (S * j)) * 1073741824) : v < 2 ^ (30 * (S * j + 1)) := by rw [p30]; exact h
theorem wg_bits3 {v : Int} (hj : j ≤ 8) (h : v < ((j : Int) + 1) * (2 ^ (30 * (S * j)) * 1152921504606846976)) : v < 2 ^ (30 * (S * j + 3)) := by
  rw [show S * j + 3 = S * j + 1 + 1 + 1 by omega, p30, p30, p30]
  have h1 := p30p (S * j)
  have h2 := Int.mul_le_mul_of_nonneg_right (show (j : Int) + 1 ≤ 1073741824 by omega) (show 0 ≤ 2 ^ (30 * (S * j)) * 1152921504606846976 by omega)
  omega
theorem wg_w {B S j : Nat} (hj : j < 8) (hB : 8 * S + 6 ≤ B) : S * j + 3 + S + 3 ≤ B ∧ S * j + 1 + S + 3 ≤ B := by
  have h1 : S * j + S = S * (j + 1) := by rw [Nat.mul_add, Nat.mul_one]
  have h2 : S * (j + 1) ≤ S * 8 := Nat.mul_le_mul_left _ (by omega)
  omega
theorem wg_ws {n : Nat} (h : ∀ i, x ≤ i → i < x + n → 1 ≤ mI M (g + 9) i) : 0 ≤ wsm M g x n := by
  induction n with
  | zero => exact Int.le_refl _
  | succ n ih =>
    show 0 ≤ wsm M g x n + mI M (g + 9) (x + n)
    have h1 := ih (fun i a b => h i a (by omega))
    have h2 := h (x + n) (by omega) (by omega)
    omega
/-- one branch -/
theorem s_wg_one {Q : mM → Prop} {sm : Int} {t : Nat} (hE : We L W z w g a R cn M) (hI : wgI M0 R cn w S j sm M) (hj : j < 8) (ht : t < cn) (hrs : Rsm M R cn S) (hle : Rle M0 R cn → Rle M R cn) (hW : ∀ x, Twg z w x → B ≤ W x) (b1 : 8 * S + 6 ≤ B) (hB : B ≤ 16000) (hsh : 0 ≤ sh ∧ sh < 1073741824) {v9 f9 : Rat} (hv9 : wgV M0 R cn w v9 M) (hf9 : Rle M0 R cn → (nv M (mR M R t + 1) : Rat) = f9 * (nv M (mR M R t + 3) : Rat))
    (hQ : ∀ M', NL L W (Twg z w) (fun _ => False) False z M M' → wgI M0 R cn w S (j + 1) (sm + sh) M' → wgV M0 R cn w (v9 + (sh : Rat) * f9) M' → Q M') (f : Nat) (ef : mR M R t = f) : mK M f = 11 ∧ mK M (mR M f 0) = 10 ∧ ((mI M (mR M f 0) 1 = 0) → Q M) ∧ (¬ (mI M (mR M f 0) 1 = 0) → (mK M w = 11 ∧ Ci G y_Na_order (d + 4) [vr (mR M w 1), vr (mR M f 1)] M (fun x40 M39 => i32 x40 ∧ mOk M39 ∧ (((x40 = 0) → (mK M39 w = 11 ∧ mK M39 f = 11 ∧ mK M39 (mR M39 w 0) = 10 ∧ Cv G y_Na_add (d + 4) [vr (mR M39 w 0), vr (mR M39 f 0), vi sh] M39 (fun M47 => mOk M47 ∧ Q M47))) ∧ (¬ (x40 = 0) → (mK M39 w = 11 ∧ mK M39 f = 11 ∧ mK M39 z = 9 ∧ Cr G y_Sc_commonDivisor (d + 4) [vr z, vr (mR M39 w 1), vr (mR M39 f 1)] M39 (fun x54 M53 => mOk M53 ∧ (mK M53 z = 9 ∧ mK M53 w = 11 ∧ mK M53 (mR M53 z 7) = 10 ∧ Cv G y_Na_put1 (d + 4) [vr (mR M53 z 7), vr (mR M53 w 1)] M53 (fun M59 => mOk M59 ∧ (mK M59 z = 9 ∧ mK M59 (mR M59 z 7) = 10 ∧ Cv G y_Na_divide (d + 4) [vr (mR M59 z 7), vr x54, vr (mR M59 z 2), vr (mR M59 z 3)] M59 (fun M64 => mOk M64 ∧ (mK M64 z = 9 ∧ mK M64 (mR M64 z 7) = 10 ∧ Cv G y_Na_put1 (d + 4) [vr (mR M64 z 7), vr (mR M64 z 2)] M64 (fun M69 => mOk M69 ∧ (mK M69 z = 9 ∧ mK M69 f = 11 ∧ mK M69 (mR M69 z 8) = 10 ∧ Cv G y_Na_put1 (d + 4) [vr (mR M69 z 8), vr (mR M69 f 1)] M69 (fun M75 => mOk M75 ∧ (mK M75 z = 9 ∧ mK M75 (mR M75 z 8) = 10 ∧ Cv G y_Na_divide (d + 4) [vr (mR M75 z 8), vr x54, vr (mR M75 z 2), vr (mR M75 z 3)] M75 (fun M80 => mOk M80 ∧ (mK M80 z = 9 ∧ mK M80 (mR M80 z 8) = 10 ∧ Cv G y_Na_put1 (d + 4) [vr (mR M80 z 8), vr (mR M80 z 2)] M80 (fun M85 => mOk M85 ∧ (mK M85 z = 9 ∧ mK M85 w = 11 ∧ mK M85 (mR M85 z 5) = 10 ∧ Cv G y_Na_putProduct (d + 4) [vr (mR M85 z 5), vr (mR M85 w 0), vr (mR M85 z 8)] M85 (fun M91 => mOk M91 ∧ (mK M91 w = 11 ∧ mK M91 z = 9 ∧ mK M91 (mR M91 w 0) = 10 ∧ Cv G y_Na_put1 (d + 4) [vr (mR M91 w 0), vr (mR M91 z 5)] M91 (fun M97 => mOk M97 ∧ (mK M97 z = 9 ∧ mK M97 f = 11 ∧ mK M97 (mR M97 z 5) = 10 ∧ Cv G y_Na_putProduct (d + 4) [vr (mR M97 z 5), vr (mR M97 f 0), vr (mR M97 z 7)] M97 (fun M103 => mOk M103 ∧ (mK M103 w = 11 ∧ mK M103 z = 9 ∧ mK M103 (mR M103 w 0) = 10 ∧ Cv G y_Na_add (d + 4) [vr (mR M103 w 0), vr (mR M103 z 5), vi sh] M103 (fun M109 => mOk M109 ∧ (mK M109 z = 9 ∧ mK M109 w = 11 ∧ mK M109 (mR M109 z 5) = 10 ∧ Cv G y_Na_putProduct (d + 4) [vr (mR M109 z 5), vr (mR M109 w 1), vr (mR M109 z 8)] M109 (fun M115 => mOk M115 ∧ (mK M115 w = 11 ∧ mK M115 z = 9 ∧ mK M115 (mR M115 w 1) = 10 ∧ Cv G y_Na_put1 (d + 4) [vr (mR M115 w 1), vr (mR M115 z 5)] M115 (fun M121 => mOk M121 ∧ (Q M121)))))))))))))))))))))))))))))))) := by
  have hw := hE.ws ht
  have dw := hE.2.2.2 t ht
  obtain ⟨rs1, rs2, rs3⟩ := hrs t ht
  have rle : Rle M0 R cn → nv M (f + 1) ≤ nv M (f + 3) ∧ 0 < nv M (f + 3) := fun q => by
    have := hle q t ht
    rw [ef] at this
    exact this
  rw [ef] at hw dw rs1 rs2 rs3 hf9
  obtain ⟨hO, hF, hS, hfw, hff⟩ := id hw
  obtain ⟨⟨k1, k2, k3⟩, -, ⟨w0, w1⟩, ⟨f0, f1⟩, -, -, -, -, -, mw1, mw3, mf1, mf3⟩ := hw.pl
  have A0 := hF.nn0 mw1
  have X0 := hF.nn0 mf1
  obtain ⟨bb1, bb2⟩ := wg_w hj b1
  have hA := wg_bits3 (by omega) hI.2.1
  have hU := wg_bits hI.1.2
  have nw : w + 1 ≠ f + 1 := fun e => dw.2.1 (Or.inr (Or.inr (Or.inr (Or.inr (Or.inl e.symm)))))
  rw [f0, w1, f1, (hF.nt mf1).2.1]
  refine ⟨k3, hF.kd mf1, fun y0 => hQ M (NL.refl hO hF hw.tw noI hS.z9) (wg_skip hI hsh.1 A0) (wv_skip hv9 hf9 ((hF.sz0 mf1).1 (by omega)) (fun q => (rle q).2)), fun _ => ⟨k2, (f_order hO hF mw3 mf3).mono (fun x40 M39 q => ?_)⟩⟩
  obtain ⟨e39, ox⟩ := q
  rw [e39, w0, f0]
  refine ⟨by unfold orQ at ox; exact ⟨by omega, by omega⟩, hO, fun y => ⟨k2, k3, hF.kd mw1, ?_⟩, fun y => ?_⟩
  · have eq : nv M (w + 3) = nv M (f + 3) := by
      rcases ox with u | u | u
      · exact u.2
      · exact absurd y (by rw [u.1]; decide)
      · exact absurd y (by rw [u.1]; decide)
    have sA := hF.szv mw1 hA
    have sF := hF.szv mf1 rs3
    have wW := hW (w + 1) (Or.inr (Or.inr (Or.inr (Or.inr (Or.inl rfl)))))
    refine (f_add (d := d + 1) hsh hO hF mw1 mf1 nw (by omega) (by omega)).mono (fun M47 k => ?_)
    obtain ⟨c, v⟩ := k
    obtain ⟨n1, H1⟩ := hw.st (Or.inr (Or.inr (Or.inr (Or.inr (Or.inl rfl))))) c
    exact ⟨c.ok, hQ M47 n1 (wg_same hI hsh v (c.v hF mw3 (nez (by decide))) ⟨X0, rs3⟩ (fun q => by rw [eq]; exact (rle q).1)) (wv_same hv9 v (c.v hF mw3 (nez (by decide))) (fun q => by rw [eq]; exact hf9 q))⟩
  · have uv : 0 < nv M (w + 3) ∨ 0 < nv M (f + 3) := by
      have n1 := hI.1.1
      unfold orQ at ox
      omega
    refine s_wgDiff (d := d) hw dw hsh uv hA hU rs2 rs3 hW bb1 bb2 hB (fun M' Q1 Q2 r n1 g1 g2 g3 g4 g5 g6 g7 => hQ M' n1 (wg_diff hI A0 hsh g1 g2 g3 g4 g5 ⟨rs1, rs2⟩ g6 g7 ⟨X0, rs3⟩ rle) (wv_diff hv9 g1 g2 g3 g4 hf9))
/-- the loop over the branches -/
theorem s_wg25 (hE0 : We L W z w g a R cn M0) (hrs0 : Rsm M0 R cn S) (hW : ∀ x, Twg z w x → B ≤ W x) (b1 : 8 * S + 6 ≤ B) (hB : B ≤ 16000) (hc : c < 4096) (hcn : cn ≤ 512) (e7 : mI M0 (g + 7) (c + 1) = ((y : Nat) : Int)) (hxy : x ≤ y ∧ y ≤ x + 8 ∧ y ≤ 4096) (hbr : ∀ i, x ≤ i → i < y → 0 ≤ mI M0 (g + 8) i ∧ mI M0 (g + 8) i < cn ∧ 1 ≤ mI M0 (g + 9) i ∧ mI M0 (g + 9) i < 1073741824) {mu : Int} (emu : wsm M0 g x (y - x) = mu) {t0 : Int} {Qw : mM → Prop} (Hm : ∀ M', NL L W (Twg z w) (fun x => x = w) False z M0 M' → mI M' w 2 = t0 → wgI M0 R cn w S (y - x) mu M' → wgV M0 R cn w (wsv M0 R g x (y - x)) M' → Qw M') : ∀ (t i : Nat) (M : mM), y ≤ i + t → x ≤ i → i ≤ y → NL L W (Twg z w) (fun x => x = w) False z M0 M → mI M w 2 = t0 → wgI M0 R cn w S (i - x) (wsm M0 g x (i - x)) M → wgV M0 R cn w (wsv M0 R g x (i - x)) M → h_Sc_weigh_25 G (d + 4) z g c a w i M Qw := by
  intro t
  induction t with
  | zero =>
    intro i M h1 h2 h3 hN ht hI hv9
    obtain ⟨hE, e9, eR, -⟩ := hE0.nl hN
    have ei : i = y := by omega
    subst ei
    rw [emu] at hI
    obtain ⟨-, ⟨⟨g1, ⟨-, -, -, r7, -⟩, k, ⟨-, -, -, n7, -⟩⟩, -⟩, -⟩ := hE
    refine k_Sc_weigh_25 hN.ok ⟨by omega, by omega⟩ ⟨by omega, by omega⟩ ?_
    rw [r7, n7, show Int.toNat ((c : Int) + 1) = c + 1 by omega, e9 7 (by decide), e7]
    exact ⟨g1, k 7 (by decide) (by decide), ⟨by omega, by omega⟩, fun _ => Hm M hN ht hI hv9, fun u => absurd (Int.le_refl _) u⟩
  | succ t ih =>
    intro i M h1 h2 h3 hN ht hI hv9
    by_cases ei : i = y
    · exact ih i M (by omega) h2 h3 hN ht hI hv9
    obtain ⟨hE, e9, eR, vals⟩ := hE0.nl hN
    obtain ⟨b8, b8', b9, b9'⟩ := hbr i h2 (by omega)
    obtain ⟨⟨hO, hF, hS, hfw⟩, ⟨⟨g1, ⟨-, -, -, r7, r8, r9⟩, k, ⟨-, -, -, n7, n8, n9⟩⟩, -⟩, ⟨q1, q2, q3, q4, -⟩, -⟩ := id hE
    obtain ⟨to, eto⟩ : ∃ to : Nat, mI M0 (g + 8) i = ((to : Nat) : Int) := ⟨(mI M0 (g + 8) i).toNat, by omega⟩
    refine k_Sc_weigh_25 hN.ok ⟨by omega, by omega⟩ ⟨by omega, by omega⟩ ?_
    rw [r7, n7, show Int.toNat ((c : Int) + 1) = c + 1 by omega, e9 7 (by decide), e7, r8, n8, q2, r9, n9, Int.toNat_natCast, e9 8 (by decide), e9 9 (by decide), eto, Int.toNat_natCast]
    refine ⟨g1, k 7 (by decide) (by decide), ⟨by omega, by omega⟩, fun u => absurd u (by omega), fun _ => ⟨q1, k 8 (by decide) (by decide), ⟨by omega, by omega⟩, q3, ⟨by omega, by omega⟩, k 9 (by decide) (by decide), ⟨by omega, by omega⟩, ?_⟩⟩
    have hrs : Rsm M R cn S := fun i hi => by
      rw [eR, (vals i hi).1, (vals i hi).2]
      exact hrs0 i hi
    have hle : Rle M0 R cn → Rle M R cn := fun q i hi => by
      rw [eR, (vals i hi).1, (vals i hi).2]
      exact q i hi
    refine s_wg_one (d := d) (Q := fun M' => h_Sc_weigh_291 G (d + 4) z g c a w i M' Qw) hE hI (by omega) (show to < cn by omega) hrs hle hW b1 hB ⟨by omega, b9'⟩ hv9 (f9 := rwv M0 R to) (fun q => by
      rw [eR, (vals to (by omega)).1, (vals to (by omega)).2]
      exact rwv_mul (q to (by omega)).2) (fun M' n1 h1' hv' => ?_) _ rfl
    refine k_Sc_weigh_291 n1.ok ⟨by omega, by omega⟩ ⟨by omega, by omega⟩ ?_
    rw [show ((i : Int) + 1) = ((i + 1 : Nat) : Int) by omega]
    have e1 : i + 1 - x = (i - x) + 1 := by omega
    refine ih (i + 1) M' (by omega) (by omega) (by omega) (hN.trans (n1.mono hF (fun _ e => e) (hE.ws (show to < cn by omega)).tw (fun _ e => e.elim) (hE.ws (show to < cn by omega)).iw (fun e => e))) ?_ ?_ ?_
    · rw [(n1.frp hF hfw.1).2 (fun e => e)]; exact ht
    · rw [e1]
      show wgI M0 R cn w S (i - x + 1) (wsm M0 g x (i - x) + mI M0 (g + 9) (x + (i - x))) M'
      rw [show x + (i - x) = i by omega]
      exact h1'
    · rw [e1]
      show wgV M0 R cn w (wsv M0 R g x (i - x) + (mI M0 (g + 9) (x + (i - x)) : Rat) * rwv M0 R (mI M0 (g + 8) (x + (i - x))).toNat) M'
      rw [show x + (i - x) = i by omega, eto, Int.toNat_natCast]
      exact hv'
theorem wg_end {sm : Int} (hN : NL L W (Twg z w) (fun x => x = w) False z M0 M) (ht : mI M w 2 = sm) (hj : j ≤ 8) (hI : wgI M0 R cn w S j sm M) : wgQ L W z w R cn S sm M0 M := by
  have e : S * j ≤ 8 * S := by rw [Nat.mul_comm 8 S]; exact Nat.mul_le_mul_left _ hj
  refine ⟨hN, ⟨hI.1.1, Int.lt_of_lt_of_le (wg_bits hI.1.2) (p30m (by omega))⟩, Int.lt_of_lt_of_le (wg_bits3 hj hI.2.1) (p30m (by omega)), ht, hI.2.2⟩
/-- a command is weighed -/
theorem f_weighX (hE : We L W z w g a R cn M) (hrs : Rsm M R cn S) (hW : ∀ x, Twg z w x → B ≤ W x) (b1 : 8 * S + 6 ≤ B) (hB : B ≤ 16000) (hc : c < 4096) (hcn : cn ≤ 512) (hbc : bc ≤ 4096) (hcm : cmdG M g cn bc c) : ∃ mu : Nat, (1 ≤ mu ∧ mu < 1000000000) ∧ (cmm M g c).2.1 = ((mu : Nat) : Int) ∧ Cv G y_Sc_weigh (d + 5) [vr z, vr g, vi c, vr a, vr w] M (fun M' => wgQ L W z w R cn S mu M M' ∧ wgV M R cn w (wsL9 (rwv M R) (cmm M g c).2.2) M') := by
  obtain ⟨x, y, mu, h1, h2, ⟨h3, h3'⟩, h4, h5, h6, h7, h8, h9, -⟩ := hcm
  refine ⟨mu, ⟨h7, h8⟩, h6, ?_⟩
  rw [cmm_ws h1 h2]
  obtain ⟨⟨hO, hF, hS, hfw⟩, ⟨hG, hgo⟩, hR, hD⟩ := id hE
  refine k_Sc_weigh hO ⟨by omega, by omega⟩ ⟨hfw.1.1, (f_Fr_put0 (d := d + 3) ⟨by decide, by decide⟩ hO hF hfw hS.z9).mono (fun M2 k => ?_)⟩
  obtain ⟨n0, v1, v3, t2⟩ := k
  have htw : ∀ t, Twg z w t → t ∈ L := by
    intro t ht
    rcases ht with u | u | u | u | u | u
    · exact hS.t4 t u
    · rw [u]; exact hS.2.2.2.2.2.1.2.2.2.2.2.1
    · rw [u]; exact hS.2.2.2.2.2.1.2.2.2.2.2.2.1
    · rw [u]; exact hS.2.2.2.2.2.1.2.2.2.2.2.2.2
    · rw [u]; exact hfw.2.1
    · rw [u]; exact hfw.2.2
  have n2 : NL L W (Twg z w) (fun x => x = w) False z M M2 := n0.mono hF (fun t ht => ht.elim (fun e => Or.inr (Or.inr (Or.inr (Or.inr (Or.inl e))))) (fun e => Or.inr (Or.inr (Or.inr (Or.inr (Or.inr e)))))) htw (fun _ e => e) (fun x e => by rw [e]; exact ⟨hfw.1.2.2, hfw.1.1⟩) (fun e => e)
  obtain ⟨hE2, e9, eR, vals⟩ := hE.nl n2
  obtain ⟨⟨hO2, hF2, hS2, hfw2⟩, ⟨⟨g1, ⟨-, -, r6, r7, -⟩, kk, ⟨-, -, n6, n7, -⟩⟩, hgo2⟩, -⟩ := id hE2
  rw [r6, n6, e9 6 (by decide), Int.toNat_natCast, h6]
  refine ⟨n2.ok, g1, kk 6 (by decide) (by decide), ⟨by omega, by omega⟩, hfw2.1.1, fun M9 e9' => ?_⟩
  obtain ⟨n3, t3, v9⟩ := nl_times (T := Twg z w) (I := fun x => x = w) (r := False) (z := z) n2.ok hF2 hfw2 hS2.z9 ⟨by omega, by omega⟩ e9' htw rfl (fun x e => by rw [e]; exact ⟨hfw2.1.2.2, hfw2.1.1⟩)
  have n9 := n2.trans n3
  obtain ⟨hE9, f9, -, -⟩ := hE.nl n9
  obtain ⟨-, ⟨⟨g1', ⟨-, -, -, r7', -⟩, kk', ⟨-, -, -, n7', -⟩⟩, -⟩, -⟩ := id hE9
  rw [r7', n7', f9 7 (by decide), h1]
  have wl : ∀ i, x ≤ i → i < y → mI M (g + 9) i < 1073741824 := fun i p q => by
    have := wsm_le (M := M) (g := g) (x := x) (n := y - x) (fun i p q => (h5 i p (by omega)).2.2) (y - x) (Nat.le_refl _) i p (by omega)
    rw [h9] at this
    omega
  refine ⟨kk' 7 (by decide) (by decide), ⟨by omega, by omega⟩, ?_⟩
  refine s_wg25 (d := d) (t0 := ((mu : Nat) : Int)) hE hrs hW b1 hB hc hcn h2 ⟨by omega, h3', by omega⟩ (fun i p q => ⟨(h5 i p q).1, (h5 i p q).2.1, (h5 i p q).2.2, wl i p q⟩) h9 (fun M' g2 g3 g4 g5 => ⟨wg_end g2 g3 (by omega) g4, g5⟩) (y - x) x M9 (by omega) (Nat.le_refl _) (by omega) n9 t3 ?_ ?_
  rotate_left
  · rw [Nat.sub_self]
    intro _
    show (nv M9 (w + 1) : Rat) = 0 * (nv M9 (w + 3) : Rat)
    rw [v9 _ hfw.2.1, v1]
    have z0 : ((0 : Int) : Rat) = 0 := rfl
    rw [z0]
    grind
  rw [Nat.sub_self]
  have e0 : (2 : Int) ^ (30 * (S * 0)) = 1 := by rw [Nat.mul_zero]; decide
  refine ⟨⟨by rw [v9 _ hfw.2.2, v3]; decide, by rw [v9 _ hfw.2.2, v3, e0]; decide⟩, by rw [v9 _ hfw.2.1, v1, e0]; decide, fun _ => ?_⟩
  rw [v9 _ hfw.2.1, v1, v9 _ hfw.2.2, v3]
  exact ⟨(by decide : (0 : Int) ≤ 0 * 1), by decide⟩
theorem f_weigh (hE : We L W z w g a R cn M) (hrs : Rsm M R cn S) (hW : ∀ x, Twg z w x → B ≤ W x) (b1 : 8 * S + 6 ≤ B) (hB : B ≤ 16000) (hc : c < 4096) (hcn : cn ≤ 512) (hbc : bc ≤ 4096) (hcm : cmdG M g cn bc c) : ∃ mu : Nat, (1 ≤ mu ∧ mu < 1000000000) ∧ Cv G y_Sc_weigh (d + 5) [vr z, vr g, vi c, vr a, vr w] M (wgQ L W z w R cn S mu M) := by
  obtain ⟨mu, h1, -, h2⟩ := f_weighX (G := G) (d := d) hE hrs hW b1 hB hc hcn hbc hcm
  exact ⟨mu, h1, h2.mono (fun M' q => q.1)⟩
end NAW
end
section
/-! The Scales: two fractions are compared; a fraction is brought to least terms. -/
section NAX
variable {G : mG} {d b c z n m w S x y B u g a R cn f f' s : Nat} {M M0 M' M1 M2 M3 : mM} {L : List Nat} {W : Nat → Nat} {T T' I I' : Nat → Prop} {r r' : Prop} {sh : Int}
def Tor (z x : Nat) : Prop := x = z + 9 ∨ x = z + 11
/-- what comparing works with -/
def Ors (L : List Nat) (W : Nat → Nat) (z f f' : Nat) (M : mM) : Prop := mOk M ∧ NF L W M ∧ SK L M z ∧ FrL L M f ∧ FrL L M f'
theorem Ors.nl (h : Ors L W z f f' M) (k : NL L W (Tor z) (fun _ => False) False z M M') : Ors L W z f f' M' := by
  obtain ⟨h1, h2, h3, h4, h5⟩ := h
  exact ⟨k.ok, k.nf, k.sk h2 h3, k.frl h2 h4, k.frl h2 h5⟩
theorem Ors.tor (h : Ors L W z f f' M) : ∀ t, Tor z t → t ∈ L := fun t ht => by
  have k := h.2.2.1.2.2.2.2.2.1
  rcases ht with e | e
  · rw [e]; exact k.2.2.2.2.1
  · rw [e]; exact k.2.2.2.2.2.1
theorem Ors.st (h : Ors L W z f f' M) (ha : Tor z a) (c : NC L W (fun x => x = a) M M') : NL L W (Tor z) (fun _ => False) False z M M' ∧ Ors L W z f f' M' := by
  have n : NL L W (Tor z) (fun _ => False) False z M M' := (c.nl (I := fun _ => False) (r := False) noI h.2.2.1.z9).mono h.2.1 (fun t ht => by rw [ht]; exact ha) h.tor (fun _ u => u) noI (fun u => u)
  exact ⟨n, h.nl n⟩
theorem Ors.pl (h : Ors L W z f f' M) : (mK M z = 9 ∧ mK M f = 11 ∧ mK M f' = 11) ∧ (mR M z 4 = z + 9 ∧ mR M z 5 = z + 11) ∧ ((mR M f 0 = f + 1 ∧ mR M f 1 = f + 3) ∧ (mR M f' 0 = f' + 1 ∧ mR M f' 1 = f' + 3)) ∧ (z + 9 ∈ L ∧ z + 11 ∈ L ∧ f + 1 ∈ L ∧ f + 3 ∈ L ∧ f' + 1 ∈ L ∧ f' + 3 ∈ L) := by
  obtain ⟨-, -, ⟨k1, ⟨-, -, -, -, k4, k5, -⟩, -, -, -, ⟨-, -, -, -, p1, p2, -⟩, -⟩, ⟨⟨q1, q2, -⟩, q3, q4⟩, ⟨⟨r1, r2, -⟩, r3, r4⟩⟩ := h
  exact ⟨⟨k1.1, q1, r1⟩, ⟨k4, k5⟩, ⟨q2, r2⟩, p1, p2, q3, q4, r3, r4⟩
/-- numbers of at most s limbs, small factors -/
def Osz (M : mM) (f s : Nat) : Prop := sz M (f + 1) ≤ s ∧ sz M (f + 3) ≤ s ∧ (1 ≤ mI M f 2 ∧ mI M f 2 < 1073741824)
theorem mul_sz {v t : Int} (hv : 0 ≤ v ∧ v < 2 ^ (30 * s)) (ht : 1 ≤ t ∧ t < 1073741824) : 0 ≤ t * v ∧ t * v < 2 ^ (30 * (s + 1)) := by
  rw [p30, Int.mul_comm]
  have h1 : v * t ≤ v * 1073741824 := Int.mul_le_mul_of_nonneg_left (by omega) hv.1
  have h2 := Int.mul_nonneg hv.1 (show 0 ≤ t by omega)
  omega
/-- from the two products on -/
theorem s_orEnd (h : Ors L W z f f' M) (t1 : 1 ≤ mI M f' 2 ∧ mI M f' 2 < 1073741824) (t2 : 1 ≤ mI M f 2 ∧ mI M f 2 < 1073741824) (s1 : sz M (z + 9) + 1 ≤ W (z + 9)) (s2 : sz M (z + 11) + 1 ≤ W (z + 11)) : mK M z = 9 ∧ mK M f' = 11 ∧ mK M (mR M z 4) = 10 ∧ Cv G y_Na_multiply (d + 4) [vr (mR M z 4), vi (mI M f' 2)] M (fun M26 => mOk M26 ∧ (mK M26 z = 9 ∧ mK M26 f = 11 ∧ mK M26 (mR M26 z 5) = 10 ∧ Cv G y_Na_multiply (d + 4) [vr (mR M26 z 5), vi (mI M26 f 2)] M26 (fun M32 => mOk M32 ∧ (mK M32 z = 9 ∧ Ci G y_Na_order (d + 4) [vr (mR M32 z 4), vr (mR M32 z 5)] M32 (fun x37 M36 => i32 x37 ∧ mOk M36 ∧ (NL L W (Tor z) (fun _ => False) False z M M36 ∧ (x37 = -1 ∨ x37 = 0 ∨ x37 = 1) ∧ orQ (mI M f' 2 * nv M (z + 9)) (mI M f 2 * nv M (z + 11)) x37)))))) := by
  obtain ⟨⟨k1, k2, k3⟩, ⟨r4, r5⟩, -, m9, m11, mf1, mf3, mg1, mg3⟩ := h.pl
  rw [r4]
  refine ⟨k1, k3, h.2.1.kd m9, (f_multiply (d := d + 2) t1 h.1 h.2.1 m9 s1).mono (fun M26 k => ?_)⟩
  obtain ⟨c1, v1⟩ := k
  obtain ⟨n1, H1⟩ := h.st (Or.inl rfl) c1
  obtain ⟨⟨k1, k2, k3⟩, ⟨r4, r5⟩, -⟩ := H1.pl
  have e2 : mI M26 f = mI M f := (n1.frp h.2.1 h.2.2.2.1.1).2 (fun e => e)
  have z11 := (c1.num h.2.1 m11 (nez (by decide))).2.2.2.1
  have z11v := (c1.num h.2.1 m11 (nez (by decide))).2.2.2.2.1
  rw [r5, e2]
  refine ⟨H1.1, k1, k2, H1.2.1.kd m11, (f_multiply (d := d + 2) t2 H1.1 H1.2.1 m11 (by rw [z11]; exact s2)).mono (fun M32 k => ?_)⟩
  obtain ⟨c2, v2⟩ := k
  obtain ⟨n2, H2⟩ := H1.st (Or.inr rfl) c2
  obtain ⟨⟨k1, k2, k3⟩, ⟨r4, r5⟩, -⟩ := H2.pl
  rw [r4, r5]
  refine ⟨H2.1, k1, (f_order (d := d + 4) H2.1 H2.2.1 m9 m11).mono (fun x M36 k => ?_)⟩
  obtain ⟨e, ox⟩ := k
  rw [e]
  have xx : x = -1 ∨ x = 0 ∨ x = 1 := by unfold orQ at ox; omega
  rw [c2.v H1.2.1 m9 (nez (by decide)), v1, v2, z11v] at ox
  exact ⟨by rcases xx with e | e | e <;> rw [e] <;> exact ⟨by decide, by decide⟩, H2.1, n1.trans n2, xx, ox⟩
/-- two fractions are compared -/
theorem f_Sc_orderX (h : Ors L W z f f' M) (o1 : Osz M f s) (o2 : Osz M f' s) (nf : ¬ Tor z (f + 1) ∧ ¬ Tor z (f + 3)) (nf' : ¬ Tor z (f' + 1) ∧ ¬ Tor z (f' + 3)) (w9 : 2 * s + 1 ≤ W (z + 9)) (w11 : 2 * s + 1 ≤ W (z + 11)) : Ci G y_Sc_order (d + 5) [vr z, vr f, vr f'] M (fun x M' => NL L W (Tor z) (fun _ => False) False z M M' ∧ (x = -1 ∨ x = 0 ∨ x = 1) ∧ (0 < nv M (f + 3) → 0 < nv M (f' + 3) → orR (fq9 M f) (fq9 M f') x)) := by
  obtain ⟨⟨k1, k2, k3⟩, ⟨r4, r5⟩, ⟨⟨f0, f1⟩, g0, g1⟩, m9, m11, mf1, mf3, mg1, mg3⟩ := h.pl
  obtain ⟨a1, a2, a3⟩ := o1
  obtain ⟨b1, b2, b3⟩ := o2
  have e9f1 : z + 9 ≠ f + 1 := fun e => nf.1 (Or.inl e.symm)
  have e11f3 : z + 11 ≠ f + 3 := fun e => nf.2 (Or.inr e.symm)
  have e9g3 : z + 9 ≠ f' + 3 := fun e => nf'.2 (Or.inl e.symm)
  have e11g1 : z + 11 ≠ f' + 1 := fun e => nf'.1 (Or.inr e.symm)
  have hF := h.2.1
  have fin : ∀ {x : Int}, orQ (nv M (f + 1) * (mI M f' 2 * nv M (f' + 3))) (nv M (f' + 1) * (mI M f 2 * nv M (f + 3))) x → 0 < nv M (f + 3) → 0 < nv M (f' + 3) → orR (fq9 M f) (fq9 M f') x := fun o d1 d2 => by
    have p1 := Int.mul_pos (show 0 < mI M f 2 by omega) d1
    have p2 := Int.mul_pos (show 0 < mI M f' 2 by omega) d2
    exact or_rat p1 p2 (fq_mul p1) (fq_mul p2) o
  refine k_Sc_order h.1 ?_
  rw [f1, g1]
  refine ⟨k2, k3, (f_order (d := d + 4) h.1 hF mf3 mg3).mono (fun x4 M3 k => ?_)⟩
  obtain ⟨e3, ox⟩ := k
  rw [e3, r4]
  refine ⟨by unfold orQ at ox; exact ⟨by omega, by omega⟩, h.1, fun x0 => ⟨k1, k2, hF.kd m9, ?_⟩, fun _ => ⟨k1, k2, k3, hF.kd m9, ?_⟩⟩
  · rw [f0]
    refine (f_put1 (d := d + 3) h.1 hF m9 mf1 e9f1 (by omega)).mono (fun M14 k => ?_)
    obtain ⟨c1, v1⟩ := k
    obtain ⟨n1, H1⟩ := h.st (Or.inl rfl) c1
    obtain ⟨⟨k1, k2, k3⟩, ⟨r4, r5⟩, ⟨⟨f0, f1⟩, g0, g1⟩, -⟩ := H1.pl
    have s9 : sz M14 (z + 9) ≤ s := H1.2.1.szv m9 (by rw [v1]; exact Int.lt_of_lt_of_le (hF.vlt mf1) (p30m a1))
    have sg := (n1.num hF mg1 nf'.1).2
    rw [r5, g0]
    refine ⟨H1.1, k1, k3, H1.2.1.kd m11, (f_put1 (d := d + 3) H1.1 H1.2.1 m11 mg1 e11g1 (by omega)).mono (fun M20 k => ?_)⟩
    obtain ⟨c2, v2⟩ := k
    obtain ⟨n2, H2⟩ := H1.st (Or.inr rfl) c2
    have N2 := n1.trans n2
    have s11 : sz M20 (z + 11) ≤ s := H2.2.1.szv m11 (by rw [v2, sg.2]; exact Int.lt_of_lt_of_le (hF.vlt mg1) (p30m b1))
    have s9' := (c2.num H1.2.1 m9 (nez (by decide))).2.2.2.1
    have ef := (N2.frp hF h.2.2.2.1.1).2 (fun e => e)
    have eg := (N2.frp hF h.2.2.2.2.1).2 (fun e => e)
    obtain ⟨q1, q2, q3, q4⟩ := s_orEnd (G := G) (d := d) H2 (by rw [eg]; exact b3) (by rw [ef]; exact a3) (by omega) (by omega)
    exact ⟨H2.1, q1, q2, q3, q4.mono (fun M26 ⟨p1, p2, p3, p4, p5⟩ => ⟨p1, p2, p3, p4, p5.mono (fun M32 ⟨p6, p7, p8⟩ => ⟨p6, p7, p8.mono (fun x M36 ⟨p9, p10, p11, p12, p13⟩ => ⟨p9, p10, N2.trans p11, p12, fun d1 d2 => fin (by
      have ed : nv M (f' + 3) = nv M (f + 3) := by
        unfold orQ at ox
        omega
      rw [eg, ef, v2, sg.2, c2.v H1.2.1 m9 (nez (by decide)), v1] at p13
      have o := orQ_mul d1 p13
      rw [ed]
      rw [show nv M (f + 1) * (mI M f' 2 * nv M (f + 3)) = mI M f' 2 * nv M (f + 1) * nv M (f + 3) by grind, show nv M (f' + 1) * (mI M f 2 * nv M (f + 3)) = mI M f 2 * nv M (f' + 1) * nv M (f + 3) by grind]
      exact o) d1 d2⟩)⟩)⟩)⟩
  · rw [f0, g1]
    refine (f_putProduct (d := d + 1) h.1 hF m9 mf1 mg3 e9f1 e9g3 (by omega)).mono (fun M14 k => ?_)
    obtain ⟨c1, v1⟩ := k
    obtain ⟨n1, H1⟩ := h.st (Or.inl rfl) c1
    obtain ⟨⟨k1, k2, k3⟩, ⟨r4, r5⟩, ⟨⟨f0, f1⟩, g0, g1⟩, -⟩ := H1.pl
    have s9 : sz M14 (z + 9) ≤ s + s := H1.2.1.szv m9 (by rw [v1]; exact pb ⟨hF.nn0 mf1, Int.lt_of_lt_of_le (hF.vlt mf1) (p30m a1)⟩ ⟨hF.nn0 mg3, Int.lt_of_lt_of_le (hF.vlt mg3) (p30m b2)⟩)
    have sg := (n1.num hF mg1 nf'.1).2
    have sf := (n1.num hF mf3 nf.2).2
    rw [r5, g0, f1]
    refine ⟨H1.1, k1, k3, k2, H1.2.1.kd m11, (f_putProduct (d := d + 1) H1.1 H1.2.1 m11 mg1 mf3 e11g1 e11f3 (by omega)).mono (fun M20 k => ?_)⟩
    obtain ⟨c2, v2⟩ := k
    obtain ⟨n2, H2⟩ := H1.st (Or.inr rfl) c2
    have N2 := n1.trans n2
    have s11 : sz M20 (z + 11) ≤ s + s := H2.2.1.szv m11 (by rw [v2, sg.2, sf.2]; exact pb ⟨hF.nn0 mg1, Int.lt_of_lt_of_le (hF.vlt mg1) (p30m b1)⟩ ⟨hF.nn0 mf3, Int.lt_of_lt_of_le (hF.vlt mf3) (p30m a2)⟩)
    have s9' := (c2.num H1.2.1 m9 (nez (by decide))).2.2.2.1
    have ef := (N2.frp hF h.2.2.2.1.1).2 (fun e => e)
    have eg := (N2.frp hF h.2.2.2.2.1).2 (fun e => e)
    obtain ⟨q1, q2, q3, q4⟩ := s_orEnd (G := G) (d := d) H2 (by rw [eg]; exact b3) (by rw [ef]; exact a3) (by omega) (by omega)
    exact ⟨H2.1, q1, q2, q3, q4.mono (fun M26 ⟨p1, p2, p3, p4, p5⟩ => ⟨p1, p2, p3, p4, p5.mono (fun M32 ⟨p6, p7, p8⟩ => ⟨p6, p7, p8.mono (fun x M36 ⟨p9, p10, p11, p12, p13⟩ => ⟨p9, p10, N2.trans p11, p12, fun d1 d2 => fin (by
      rw [eg, ef, v2, sg.2, sf.2, c2.v H1.2.1 m9 (nez (by decide)), v1] at p13
      rw [show nv M (f + 1) * (mI M f' 2 * nv M (f' + 3)) = mI M f' 2 * (nv M (f + 1) * nv M (f' + 3)) by grind, show nv M (f' + 1) * (mI M f 2 * nv M (f + 3)) = mI M f 2 * (nv M (f' + 1) * nv M (f + 3)) by grind]
      exact p13) d1 d2⟩)⟩)⟩)⟩
theorem f_Sc_order (h : Ors L W z f f' M) (o1 : Osz M f s) (o2 : Osz M f' s) (nf : ¬ Tor z (f + 1) ∧ ¬ Tor z (f + 3)) (nf' : ¬ Tor z (f' + 1) ∧ ¬ Tor z (f' + 3)) (w9 : 2 * s + 1 ≤ W (z + 9)) (w11 : 2 * s + 1 ≤ W (z + 11)) : Ci G y_Sc_order (d + 5) [vr z, vr f, vr f'] M (fun x M' => NL L W (Tor z) (fun _ => False) False z M M' ∧ (x = -1 ∨ x = 0 ∨ x = 1)) := (f_Sc_orderX h o1 o2 nf nf' w9 w11).mono (fun x M' k => ⟨k.1, k.2.1⟩)
end NAX
end
