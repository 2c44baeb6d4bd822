/-! The reference: chances of ways are added; what is known of ways and commands. -/
section ADD
variable {G : mG} {d a g T R W C Z n L w Ln : Nat} {M M' M2 : mM} {E : Eg9} {tg : Int} {B : Nat → Nat}
/-- a sum of two chances in lowest terms -/
theorem add_math {A D u v mul q A' D' : Int} (hD : 0 < D) (hv : 0 < v) (hA : 0 < A) (hu : 0 < u) (h1 : D ∣ mul) (h2 : v ∣ mul) (hq : 1 ≤ q) (e1 : A * v + u * D = q * A') (e2 : D * v = q * D') (hg : ∀ z : Int, z ∣ A * v + u * D → z ∣ D * v → z ∣ q) : 0 < A' ∧ 0 < D' ∧ D' ∣ mul ∧ A' * (mul / D') = A * (mul / D) + u * (mul / v) := by
  obtain ⟨p, hp⟩ := h1
  obtain ⟨r, hr⟩ := h2
  have dp : mul / D = p := by rw [hp]; exact Int.mul_ediv_cancel_left p (by omega)
  have dr : mul / v = r := by rw [hr]; exact Int.mul_ediv_cancel_left r (by omega)
  have posm : ∀ {x y : Int}, 0 < x → 0 < x * y → 0 < y := fun {x y} hx hxy => by
    by_cases z : 0 < y
    · exact z
    · have := Int.mul_le_mul_of_nonneg_left (show y ≤ 0 by omega) (show 0 ≤ x by omega)
      omega
  have x0 : 0 < A * v + u * D := by
    have := Int.mul_pos hA hv
    have := Int.mul_pos hu hD
    omega
  have A0 : 0 < A' := posm (x := q) (by omega) (by rw [← e1]; exact x0)
  have D0 : 0 < D' := posm (x := q) (by omega) (by rw [← e2]; exact Int.mul_pos hD hv)
  -- mul * A' = D' * K
  have key : mul * A' = D' * (A * p + u * r) := by
    have k1 : q * (mul * A') = q * (D' * (A * p + u * r)) := by
      have s1 : q * (mul * A') = mul * (A * v + u * D) := by rw [e1]; grind
      have s2 : q * (D' * (A * p + u * r)) = D * v * (A * p + u * r) := by rw [e2]; grind
      have s3 : mul * (A * v + u * D) = (D * p) * (A * v) + (v * r) * (u * D) := by rw [← hp, ← hr]; grind
      rw [s1, s2, s3]
      grind
    exact Int.eq_of_mul_eq_mul_left (show q ≠ 0 by omega) k1
  have cop : Nat.Coprime D'.natAbs A'.natAbs := by
    unfold Nat.Coprime
    have d1 : (Nat.gcd D'.natAbs A'.natAbs : Int) ∣ D' := Int.ofNat_dvd_left.2 (Nat.gcd_dvd_left _ _)
    have d2 : (Nat.gcd D'.natAbs A'.natAbs : Int) ∣ A' := Int.ofNat_dvd_left.2 (Nat.gcd_dvd_right _ _)
    have d3 := hg (q * (Nat.gcd D'.natAbs A'.natAbs : Int)) (by rw [e1]; exact Int.mul_dvd_mul (Int.dvd_refl q) d2) (by rw [e2]; exact Int.mul_dvd_mul (Int.dvd_refl q) d1)
    obtain ⟨t, ht⟩ := d3
    have t1 : (Nat.gcd D'.natAbs A'.natAbs : Int) * t = 1 := by
      have : q * ((Nat.gcd D'.natAbs A'.natAbs : Int) * t) = q * 1 := by rw [Int.mul_one, ← Int.mul_assoc]; exact ht.symm
      exact Int.eq_of_mul_eq_mul_left (show q ≠ 0 by omega) this
    have := Int.eq_one_of_mul_eq_one_right (show (0 : Int) ≤ (Nat.gcd D'.natAbs A'.natAbs : Int) by omega) t1
    omega
  have dm : D' ∣ mul := by
    have : D'.natAbs ∣ A'.natAbs * mul.natAbs := by
      rw [← Int.natAbs_mul, Int.mul_comm, key]
      exact Int.natAbs_dvd_natAbs.2 (Int.dvd_mul_right D' _)
    exact Int.natAbs_dvd_natAbs.1 (cop.dvd_of_dvd_mul_left this)
  refine ⟨A0, D0, dm, ?_⟩
  obtain ⟨m, hm⟩ := dm
  have dd : mul / D' = m := by rw [hm]; exact Int.mul_ediv_cancel_left m (by omega)
  rw [dd, dp, dr]
  rw [hm] at key
  have : D' * (A' * m) = D' * (A * p + u * r) := by rw [← key]; grind
  exact Int.eq_of_mul_eq_mul_left (show D' ≠ 0 by omega) this
/-- the ways that are known -/
def Wy (M : mM) (a n w : Nat) : Prop := ∀ j : Nat, j < w → (0 ≤ mI M (a + 21185) j ∧ mI M (a + 21185) j < n) ∧ (0 < mL M (a + 21186) j ∧ mL M (a + 21186) j < 1000000000) ∧ (0 < mL M (a + 21187) j ∧ mL M (a + 21187) j < 1000000000)
/-- command i is complete: its ways are B i to B (i + 1) - 1 -/
def okc (M : mM) (a : Nat) (B : Nat → Nat) (i : Nat) : Prop := (B i < B (i + 1) ∧ B (i + 1) ≤ B i + 8) ∧ (nt M (a + 111) i = (B i : Int) ∧ nt M (a + 113) i = ((B (i + 1) - B i : Nat) : Int)) ∧ (1 ≤ nt M (a + 115) i ∧ nt M (a + 115) i < 1000000000) ∧ (∀ j : Nat, B i ≤ j → j < B (i + 1) → mL M (a + 21187) j ∣ nt M (a + 115) i) ∧ sm (fun t => mL M (a + 21186) (B i + t) * (nt M (a + 115) i / mL M (a + 21187) (B i + t))) (B (i + 1) - B i) = nt M (a + 115) i
/-- what has been found so far: n states, L complete commands, w ways; the lists hold Ln commands -/
def XD (M : mM) (a g n W L w Ln : Nat) (B : Nat → Nat) : Prop := (mI M a 29 = (n : Int) ∧ 1 ≤ n ∧ n ≤ 512) ∧ (mI M a 40 = (w : Int) ∧ w ≤ 4096) ∧ Vx M a g n W ∧ Wy M a n w ∧ (ln M (a + 109) = Ln ∧ ln M (a + 111) = Ln ∧ ln M (a + 113) = Ln ∧ ln M (a + 115) = Ln) ∧ (B 0 = 0 ∧ B L ≤ w ∧ L ≤ Ln) ∧ ∀ i, i < L → okc M a B i
theorem XD.mono (h : XD M a g n W L w Ln B) : ∀ i j, i ≤ j → j ≤ L → B i + (j - i) ≤ B j := by
  intro i j hij hj
  induction j with
  | zero => have : i = 0 := by omega
            rw [this]; omega
  | succ j ih =>
    by_cases z : i = j + 1
    · rw [z]; omega
    · have := ih (by omega) (by omega)
      have := (h.2.2.2.2.2.2 j (by omega)).1.1
      omega
theorem okc.cg {i : Nat} (h : okc M a B i) (e1 : nt M' (a + 111) i = nt M (a + 111) i) (e2 : nt M' (a + 113) i = nt M (a + 113) i) (e3 : nt M' (a + 115) i = nt M (a + 115) i) (e4 : ∀ j, B i ≤ j → j < B (i + 1) → mL M' (a + 21186) j = mL M (a + 21186) j ∧ mL M' (a + 21187) j = mL M (a + 21187) j) : okc M' a B i := by
  obtain ⟨h1, h2, h3, h4, h5⟩ := h
  unfold okc
  rw [e1, e2, e3]
  refine ⟨h1, h2, h3, fun j j1 j2 => by rw [(e4 j j1 j2).2]; exact h4 j j1 j2, ?_⟩
  refine Eq.trans (sm_congr _ (fun t ht => ?_)) h5
  have := e4 (B i + t) (by omega) (by omega)
  show mL M' (a + 21186) (B i + t) * (nt M (a + 115) i / mL M' (a + 21187) (B i + t)) = mL M (a + 21186) (B i + t) * (nt M (a + 115) i / mL M (a + 21187) (B i + t))
  rw [this.1, this.2]
/-- a step that leaves all this -/
theorem XD.same (h : XD M a g n W L w Ln B) (f29 : mI M' a 29 = mI M a 29) (f40 : mI M' a 40 = mI M a 40) (gs : Gs M M' g) (c105 : mI M' (a + 105) = mI M (a + 105)) (c85 : mI M' (a + 21185) = mI M (a + 21185)) (c86 : mL M' (a + 21186) = mL M (a + 21186)) (c87 : mL M' (a + 21187) = mL M (a + 21187)) (l9 : sl M M' (a + 109)) (l11 : sl M M' (a + 111)) (l13 : sl M M' (a + 113)) (l15 : sl M M' (a + 115)) : XD M' a g n W L w Ln B := by
  obtain ⟨h1, h2, h3, h4, h5, h6, h7⟩ := h
  refine ⟨by rw [f29]; exact h1, by rw [f40]; exact h2, fun k v hk hv => ?_, fun j hj => ?_, by rw [l9.1, l11.1, l13.1, l15.1]; exact h5, h6, fun i hi => (h7 i hi).cg (l11.2 i) (l13.2 i) (l15.2 i) (fun j _ _ => by rw [c86, c87]; exact ⟨rfl, rfl⟩)⟩
  · rw [(gs.2.1 19 (by omega) (by omega)).1, (gs.2.1 20 (by omega) (by omega)).1, c105]
    exact h3 k v hk hv
  · rw [c85, c86, c87]
    exact h4 j hj
theorem k109 : a + 109 ∈ nums a := nums_o (by decide)
theorem k111 : a + 111 ∈ nums a := nums_o (by decide)
theorem k113 : a + 113 ∈ nums a := nums_o (by decide)
theorem k115 : a + 115 ∈ nums a := nums_o (by decide)
theorem XD.mv {P S : Nat → Prop} (h : XD M a g n W L w Ln B) (w0 : Wd M a) (m : Mv P S M a M') (hin : ∀ q, P q → q ∈ nums a) (hP : ∀ q, P q → q ≠ a + 109 ∧ q ≠ a + 111 ∧ q ≠ a + 113 ∧ q ≠ a + 115) (hS : ∀ x, S x → x ≠ a + 105 ∧ x ≠ a + 21185 ∧ x ≠ a + 21186 ∧ x ≠ a + 21187) (gs : Gs M M' g) (f29 : mI M' a 29 = mI M a 29) (f40 : mI M' a 40 = mI M a 40) : XD M' a g n W L w Ln B :=
  h.same f29 f40 gs (m.cellL w0 hin (offx (a := a) (o := 105) (by decide)) (fun z => (hS _ z).1 rfl)).1 (m.cellL w0 hin (offx (a := a) (o := 21185) (by decide)) (fun z => (hS _ z).2.1 rfl)).1 (m.cellL w0 hin (offx (a := a) (o := 21186) (by decide)) (fun z => (hS _ z).2.2.1 rfl)).2 (m.cellL w0 hin (offx (a := a) (o := 21187) (by decide)) (fun z => (hS _ z).2.2.2 rfl)).2 (m.lst k109 (fun z => (hP _ z).1 rfl)).sl (m.lst k111 (fun z => (hP _ z).2.1 rfl)).sl (m.lst k113 (fun z => (hP _ z).2.2.1 rfl)).sl (m.lst k115 (fun z => (hP _ z).2.2.2 rfl)).sl
end ADD
