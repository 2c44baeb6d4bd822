section
/-! The reference: a state is entered. -/
section ENT
variable {G : mG} {d a g T R W C Z : Nat} {M M' : mM} {E : Eg9} {tg : Int} {P S : Nat → Prop}
theorem En.mv (h : En M a g R W) (w : Wd M a) (m : Mv P S M a M') (hin : ∀ q, P q → q ∈ nums a) (gs : Gs M M' g) (hS : ∀ x, S x → ¬ (a + 101 ≤ x ∧ x ≤ a + 104)) : En M' a g R W := by
  have c101 := m.cellL w hin (offx (a := a) (o := 101) (by decide)) (fun z => hS _ z (by omega))
  have c102 := m.cellL w hin (offx (a := a) (o := 102) (by decide)) (fun z => hS _ z (by omega))
  have c103 := m.cellL w hin (offx (a := a) (o := 103) (by decide)) (fun z => hS _ z (by omega))
  have c104 := m.cellL w hin (offx (a := a) (o := 104) (by decide)) (fun z => hS _ z (by omega))
  unfold En
  rw [gs_tn gs, c101.1, c102.1, c103.2, c104.2, (gs.2.1 13 (by omega) (by omega)).1, (gs.2.1 19 (by omega) (by omega)).1, (gs.2.1 20 (by omega) (by omega)).1]
  exact h
end ENT
end
section
/-! The reference: the chances of a command's branches. -/
section CHA
variable {G : mG} {d a g T R W C Z : Nat} {M M' M2 M3 : mM} {E : Eg9} {tg : Int}
/-- working out goes on -/
def xg (M : mM) (a g T R W C Z : Nat) (E : Eg9) (tg : Int) (M2 : mM) : Prop := xe M a M2 ∧ GG M2 a g T R W C Z E tg ∧ En M2 a g R W
theorem xg.tr (h : xg M a g T R W C Z E tg M2) (k : xg M2 a g T R W C Z E tg M3) : xg M a g T R W C Z E tg M3 := ⟨h.1.trans k.1, k.2⟩
/-- a step elsewhere -/
theorem xg.st {P S : Nat → Prop} (h : xg M a g T R W C Z E tg M2) (m : Mv P S M2 a M3) (hP : ∀ q, P q → q = a + 99) (hS : ∀ x, S x → x = a ∨ (a + 97 ≤ x ∧ x ≤ a + 98) ∨ (a + 21188 ≤ x ∧ x ≤ a + 21190)) (hf : ∀ i, i ≠ 16 → i ≠ 17 → i ≠ 23 → mI M3 a i = mI M2 a i) : xg M a g T R W C Z E tg M3 := by
  have w2 := h.2.1.2.1
  have hg := h.2.1.2.2.1.2
  have x : xe M2 a M3 := xe.mk w2 m hP (fun x hx => by
    have := hS x hx
    show x = a ∨ (a + 97 ≤ x ∧ x ≤ a + 98) ∨ (a + 102 ≤ x ∧ x ≤ a + 104) ∨ (a + 21188 ≤ x ∧ x ≤ a + 21190)
    omega) hf
  exact ⟨h.1.trans x, x.gg h.2.1, h.2.2.mv w2 m (fun q hq => in99 q (hP q hq)) (x.gs w2 hg) (fun x hx => by have := hS x hx; omega)⟩
theorem xg.stp {c p : Int} (h : xg M a g T R W C Z E tg M2) (q : Mv (fun _ => False) (fun x => x = a) M2 a M3 ∧ mI M3 a 16 = c ∧ mI M3 a 17 = p ∧ ∀ i, i ≠ 16 → i ≠ 17 → mI M3 a i = mI M2 a i) : xg M a g T R W C Z E tg M3 :=
  h.st q.1 (fun _ z => z.elim) (fun x z => Or.inl z) (fun i i1 i2 _ => q.2.2.2 i i1 i2)
/-- the first b chances are sound -/
def chk1 (M : mM) (a b : Nat) : Prop := ∀ b' : Nat, b' < b → 0 ≤ mL M (a + 21189) b' ∧ mL M (a + 21189) b' ≤ mL M (a + 21190) b' ∧ 1 ≤ mL M (a + 21190) b' ∧ mL M (a + 21190) b' < 1000000000
/-- the chances of a command -/
def chQ (M : mM) (a g T R W C Z : Nat) (E : Eg9) (tg : Int) (nb : Nat) (x : Int) (M' : mM) : Prop := i64 x ∧ xg M a g T R W C Z E tg M' ∧ (mI M' a 16 ≠ 0 ∨ (mI M' a 16 = 0 ∧ chk1 M' a nb ∧ 1 ≤ x ∧ x < 1000000000 ∧ ∀ b' : Nat, b' < nb → mL M' (a + 21190) b' ∣ x))
theorem r4546 {Mx : mM} (w : Wd Mx a) : (mR Mx a 45 = a + 21189 ∧ mR Mx a 46 = a + 21190) ∧ (mK Mx (a + 21189) = 33 ∧ mN Mx (a + 21189) = 8) ∧ (mK Mx (a + 21190) = 33 ∧ mN Mx (a + 21190) = 8) :=
  ⟨⟨w.1.2.2.2.2.2.2.1.2.2.2.2.1, w.1.2.2.2.2.2.2.1.2.2.2.2.2.1⟩, w.1.2.2.2.2.2.2.2.2.2.1.2.2.2.2.1, w.1.2.2.2.2.2.2.2.2.2.1.2.2.2.2.2.1⟩
end CHA
end
section
/-! The reference: chances. -/
section CHB
variable {G : mG} {d a g T R W C Z : Nat} {M : mM} {E : Eg9} {tg : Int}
theorem mv_ulx {M2 M3 : mM} {o j : Nat} {v : Int} (hv : i64 v) (hO : mOk M2) (w : Wd M2 a) (e : M3 = mUL M2 (a + o) j v) : Mv (fun _ => False) (fun y => y = a + o) M2 a M3 ∧ (∀ k, mL M3 (a + o) k = if k = j then v else mL M2 (a + o) k) ∧ (∀ y, y ≠ a + o → mL M3 y = mL M2 y) ∧ mI M3 = mI M2 := by
  obtain ⟨m, f, i⟩ := mv_ul hv hO w e
  refine ⟨m, fun k => ?_, fun y hy => ?_, i⟩
  · rw [f]
    by_cases z : k = j
    · rw [if_pos ⟨rfl, z⟩, if_pos z]
    · rw [if_neg (fun q => z q.2), if_neg z]
  · funext k
    rw [f, if_neg (fun q => hy q.1)]
end CHB
end
section
/-! The reference: a variable's next value; a state is found or made. -/
section SET
variable {G : mG} {d a g T R W C Z n : Nat} {M M' M2 : mM} {E : Eg9} {tg : Int}
/-- the next values stand in their ranges -/
def Nxv (M : mM) (a g W : Nat) : Prop := ∀ v : Nat, v < W → mI M (g + 19) v ≤ mI M (a + 21188) v ∧ mI M (a + 21188) v ≤ mI M (g + 20) v
/-- working out, and next values -/
abbrev sxS (a : Nat) : Nat → Prop := fun x => woS a x ∨ x = a + 21188
/-- a next value has been set -/
def seQ (M : mM) (a g T R W C Z : Nat) (E : Eg9) (tg : Int) (M' : mM) : Prop := Mv (fun x => x = a + 99) (sxS a) M a M' ∧ (∀ i, i ≠ 16 → i ≠ 17 → i ≠ 23 → mI M' a i = mI M a i) ∧ GG M' a g T R W C Z E tg ∧ En M' a g R W ∧ (mI M' a 16 = 0 → Nxv M' a g W)
/-- the states' variables stand in their ranges -/
def Vx (M : mM) (a g n W : Nat) : Prop := ∀ k v : Nat, k < n → v < W → mI M (g + 19) v ≤ mI M (a + 105) (12 * k + v) ∧ mI M (a + 105) (12 * k + v) ≤ mI M (g + 20) v
/-- a state has been found or made -/
def soQ (M : mM) (a g n W : Nat) (x : Int) (M' : mM) : Prop := (x = -1 ∧ M' = M) ∨ ∃ n' : Nat, (n' = n ∨ n' = n + 1) ∧ n' ≤ 512 ∧ 0 ≤ x ∧ x < n' ∧ Mv (fun _ => False) (fun y => y = a ∨ y = a + 105) M a M' ∧ mI M' a 29 = (n' : Int) ∧ (∀ i, i ≠ 29 → mI M' a i = mI M a i) ∧ Vx M' a g n' W
end SET
end
section
/-! The reference: chances of ways are added; what is known of ways and commands. -/
section ADD
variable {G : mG} {d a g T R W C Z n L w Ln : Nat} {M M' M2 : mM} {E : Eg9} {tg : Int} {B : Nat → Nat}
/-- a sum of two chances in lowest terms -/
theorem add_math {A D u v mul q A' D' : Int} (hD : 0 < D) (hv : 0 < v) (hA : 0 < A) (hu : 0 < u) (h1 : D ∣ mul) (h2 : v ∣ mul) (hq : 1 ≤ q) (e1 : A * v + u * D = q * A') (e2 : D * v = q * D') (hg : ∀ z : Int, z ∣ A * v + u * D → z ∣ D * v → z ∣ q) : 0 < A' ∧ 0 < D' ∧ D' ∣ mul ∧ A' * (mul / D') = A * (mul / D) + u * (mul / v) := by
  obtain ⟨p, hp⟩ := h1
  obtain ⟨r, hr⟩ := h2
  have dp : mul / D = p := by rw [hp]; exact Int.mul_ediv_cancel_left p (by omega)
  have dr : mul / v = r := by rw [hr]; exact Int.mul_ediv_cancel_left r (by omega)
  have posm : ∀ {x y : Int}, 0 < x → 0 < x * y → 0 < y := fun {x y} hx hxy => by
    by_cases z : 0 < y
    · exact z
    · have := Int.mul_le_mul_of_nonneg_left (show y ≤ 0 by omega) (show 0 ≤ x by omega)
      omega
  have x0 : 0 < A * v + u * D := by
    have := Int.mul_pos hA hv
    have := Int.mul_pos hu hD
    omega
  have A0 : 0 < A' := posm (x := q) (by omega) (by rw [← e1]; exact x0)
  have D0 : 0 < D' := posm (x := q) (by omega) (by rw [← e2]; exact Int.mul_pos hD hv)
  -- mul * A' = D' * K
  have key : mul * A' = D' * (A * p + u * r) := by
    have k1 : q * (mul * A') = q * (D' * (A * p + u * r)) := by
      have s1 : q * (mul * A') = mul * (A * v + u * D) := by rw [e1]; grind
      have s2 : q * (D' * (A * p + u * r)) = D * v * (A * p + u * r) := by rw [e2]; grind
      have s3 : mul * (A * v + u * D) = (D * p) * (A * v) + (v * r) * (u * D) := by rw [← hp, ← hr]; grind
      rw [s1, s2, s3]
      grind
    exact Int.eq_of_mul_eq_mul_left (show q ≠ 0 by omega) k1
  have cop : Nat.Coprime D'.natAbs A'.natAbs := by
    unfold Nat.Coprime
    have d1 : (Nat.gcd D'.natAbs A'.natAbs : Int) ∣ D' := Int.ofNat_dvd_left.2 (Nat.gcd_dvd_left _ _)
    have d2 : (Nat.gcd D'.natAbs A'.natAbs : Int) ∣ A' := Int.ofNat_dvd_left.2 (Nat.gcd_dvd_right _ _)
    have d3 := hg (q * (Nat.gcd D'.natAbs A'.natAbs : Int)) (by rw [e1]; exact Int.mul_dvd_mul (Int.dvd_refl q) d2) (by rw [e2]; exact Int.mul_dvd_mul (Int.dvd_refl q) d1)
    obtain ⟨t, ht⟩ := d3
    have t1 : (Nat.gcd D'.natAbs A'.natAbs : Int) * t = 1 := by
      have : q * ((Nat.gcd D'.natAbs A'.natAbs : Int) * t) = q * 1 := by rw [Int.mul_one, ← Int.mul_assoc]; exact ht.symm
      exact Int.eq_of_mul_eq_mul_left (show q ≠ 0 by omega) this
    have := Int.eq_one_of_mul_eq_one_right (show (0 : Int) ≤ (Nat.gcd D'.natAbs A'.natAbs : Int) by omega) t1
    omega
  have dm : D' ∣ mul := by
    have : D'.natAbs ∣ A'.natAbs * mul.natAbs := by
      rw [← Int.natAbs_mul, Int.mul_comm, key]
      exact Int.natAbs_dvd_natAbs.2 (Int.dvd_mul_right D' _)
    exact Int.natAbs_dvd_natAbs.1 (cop.dvd_of_dvd_mul_left this)
  refine ⟨A0, D0, dm, ?_⟩
  obtain ⟨m, hm⟩ := dm
  have dd : mul / D' = m := by rw [hm]; exact Int.mul_ediv_cancel_left m (by omega)
  rw [dd, dp, dr]
  rw [hm] at key
  have : D' * (A' * m) = D' * (A * p + u * r) := by rw [← key]; grind
  exact Int.eq_of_mul_eq_mul_left (show D' ≠ 0 by omega) this
/-- the ways that are known -/
def Wy (M : mM) (a n w : Nat) : Prop := ∀ j : Nat, j < w → (0 ≤ mI M (a + 21185) j ∧ mI M (a + 21185) j < n) ∧ (0 < mL M (a + 21186) j ∧ mL M (a + 21186) j < 1000000000) ∧ (0 < mL M (a + 21187) j ∧ mL M (a + 21187) j < 1000000000)
/-- command i is complete: its ways are B i to B (i + 1) - 1 -/
def okc (M : mM) (a : Nat) (B : Nat → Nat) (i : Nat) : Prop := (B i < B (i + 1) ∧ B (i + 1) ≤ B i + 8) ∧ (nt M (a + 111) i = (B i : Int) ∧ nt M (a + 113) i = ((B (i + 1) - B i : Nat) : Int)) ∧ (1 ≤ nt M (a + 115) i ∧ nt M (a + 115) i < 1000000000) ∧ (∀ j : Nat, B i ≤ j → j < B (i + 1) → mL M (a + 21187) j ∣ nt M (a + 115) i) ∧ sm (fun t => mL M (a + 21186) (B i + t) * (nt M (a + 115) i / mL M (a + 21187) (B i + t))) (B (i + 1) - B i) = nt M (a + 115) i
/-- what has been found so far: n states, L complete commands, w ways; the lists hold Ln commands -/
def XD (M : mM) (a g n W L w Ln : Nat) (B : Nat → Nat) : Prop := (mI M a 29 = (n : Int) ∧ 1 ≤ n ∧ n ≤ 512) ∧ (mI M a 40 = (w : Int) ∧ w ≤ 4096) ∧ Vx M a g n W ∧ Wy M a n w ∧ (ln M (a + 109) = Ln ∧ ln M (a + 111) = Ln ∧ ln M (a + 113) = Ln ∧ ln M (a + 115) = Ln) ∧ (B 0 = 0 ∧ B L ≤ w ∧ L ≤ Ln) ∧ ∀ i, i < L → okc M a B i
theorem XD.mono (h : XD M a g n W L w Ln B) : ∀ i j, i ≤ j → j ≤ L → B i + (j - i) ≤ B j := by
  intro i j hij hj
  induction j with
  | zero => have : i = 0 := by omega
            rw [this]; omega
  | succ j ih =>
    by_cases z : i = j + 1
    · rw [z]; omega
    · have := ih (by omega) (by omega)
      have := (h.2.2.2.2.2.2 j (by omega)).1.1
      omega
theorem okc.cg {i : Nat} (h : okc M a B i) (e1 : nt M' (a + 111) i = nt M (a + 111) i) (e2 : nt M' (a + 113) i = nt M (a + 113) i) (e3 : nt M' (a + 115) i = nt M (a + 115) i) (e4 : ∀ j, B i ≤ j → j < B (i + 1) → mL M' (a + 21186) j = mL M (a + 21186) j ∧ mL M' (a + 21187) j = mL M (a + 21187) j) : okc M' a B i := by
  obtain ⟨h1, h2, h3, h4, h5⟩ := h
  unfold okc
  rw [e1, e2, e3]
  refine ⟨h1, h2, h3, fun j j1 j2 => by rw [(e4 j j1 j2).2]; exact h4 j j1 j2, ?_⟩
  refine Eq.trans (sm_congr _ (fun t ht => ?_)) h5
  have := e4 (B i + t) (by omega) (by omega)
  show mL M' (a + 21186) (B i + t) * (nt M (a + 115) i / mL M' (a + 21187) (B i + t)) = mL M (a + 21186) (B i + t) * (nt M (a + 115) i / mL M (a + 21187) (B i + t))
  rw [this.1, this.2]
/-- a step that leaves all this -/
theorem XD.same (h : XD M a g n W L w Ln B) (f29 : mI M' a 29 = mI M a 29) (f40 : mI M' a 40 = mI M a 40) (gs : Gs M M' g) (c105 : mI M' (a + 105) = mI M (a + 105)) (c85 : mI M' (a + 21185) = mI M (a + 21185)) (c86 : mL M' (a + 21186) = mL M (a + 21186)) (c87 : mL M' (a + 21187) = mL M (a + 21187)) (l9 : sl M M' (a + 109)) (l11 : sl M M' (a + 111)) (l13 : sl M M' (a + 113)) (l15 : sl M M' (a + 115)) : XD M' a g n W L w Ln B := by
  obtain ⟨h1, h2, h3, h4, h5, h6, h7⟩ := h
  refine ⟨by rw [f29]; exact h1, by rw [f40]; exact h2, fun k v hk hv => ?_, fun j hj => ?_, by rw [l9.1, l11.1, l13.1, l15.1]; exact h5, h6, fun i hi => (h7 i hi).cg (l11.2 i) (l13.2 i) (l15.2 i) (fun j _ _ => by rw [c86, c87]; exact ⟨rfl, rfl⟩)⟩
  · rw [(gs.2.1 19 (by omega) (by omega)).1, (gs.2.1 20 (by omega) (by omega)).1, c105]
    exact h3 k v hk hv
  · rw [c85, c86, c87]
    exact h4 j hj
theorem k109 : a + 109 ∈ nums a := nums_o (by decide)
theorem k111 : a + 111 ∈ nums a := nums_o (by decide)
theorem k113 : a + 113 ∈ nums a := nums_o (by decide)
theorem k115 : a + 115 ∈ nums a := nums_o (by decide)
theorem XD.mv {P S : Nat → Prop} (h : XD M a g n W L w Ln B) (w0 : Wd M a) (m : Mv P S M a M') (hin : ∀ q, P q → q ∈ nums a) (hP : ∀ q, P q → q ≠ a + 109 ∧ q ≠ a + 111 ∧ q ≠ a + 113 ∧ q ≠ a + 115) (hS : ∀ x, S x → x ≠ a + 105 ∧ x ≠ a + 21185 ∧ x ≠ a + 21186 ∧ x ≠ a + 21187) (gs : Gs M M' g) (f29 : mI M' a 29 = mI M a 29) (f40 : mI M' a 40 = mI M a 40) : XD M' a g n W L w Ln B :=
  h.same f29 f40 gs (m.cellL w0 hin (offx (a := a) (o := 105) (by decide)) (fun z => (hS _ z).1 rfl)).1 (m.cellL w0 hin (offx (a := a) (o := 21185) (by decide)) (fun z => (hS _ z).2.1 rfl)).1 (m.cellL w0 hin (offx (a := a) (o := 21186) (by decide)) (fun z => (hS _ z).2.2.1 rfl)).2 (m.cellL w0 hin (offx (a := a) (o := 21187) (by decide)) (fun z => (hS _ z).2.2.2 rfl)).2 (m.lst k109 (fun z => (hP _ z).1 rfl)).sl (m.lst k111 (fun z => (hP _ z).2.1 rfl)).sl (m.lst k113 (fun z => (hP _ z).2.2.1 rfl)).sl (m.lst k115 (fun z => (hP _ z).2.2.2 rfl)).sl
end ADD
end
section
/-! The reference: a way's chance grows, or a way is new. -/
section AWY
variable {G : mG} {d a g T R W C Z n L w w0 : Nat} {M M' M2 M3 M4 : mM} {E : Eg9} {tg mul Sm : Int} {B : Nat → Nat}
/-- the command that is being explored -/
def Op (M : mM) (a L w0 w : Nat) (mul Sm : Int) : Prop := w0 ≤ w ∧ (nt M (a + 111) L = (w0 : Int) ∧ nt M (a + 113) L = ((w - w0 : Nat) : Int) ∧ nt M (a + 115) L = mul) ∧ (1 ≤ mul ∧ mul < 1000000000) ∧ (∀ j : Nat, w0 ≤ j → j < w → mL M (a + 21187) j ∣ mul) ∧ sm (fun t => mL M (a + 21186) (w0 + t) * (mul / mL M (a + 21187) (w0 + t))) (w - w0) = Sm
theorem sm_upd {f f' : Nat → Int} {t0 : Nat} : ∀ (n : Nat), t0 < n → (∀ t, t < n → t ≠ t0 → f' t = f t) → sm f' n = sm f n - f t0 + f' t0
  | 0, h, _ => absurd h (by omega)
  | n + 1, h, k => by
    show sm f' n + f' n = sm f n + f n - f t0 + f' t0
    by_cases z : t0 = n
    · have : sm f' n = sm f n := sm_congr n (fun t ht => k t (by omega) (by omega))
      rw [this, z]
      omega
    · have := sm_upd n (by omega) (fun t ht hne => k t (by omega) hne)
      rw [this, k n (by omega) (fun y => z y.symm)]
      omega
theorem sm_le1 {f : Nat → Int} {t0 : Nat} : ∀ (n : Nat), t0 < n → (∀ t, t < n → 0 ≤ f t) → f t0 ≤ sm f n
  | 0, h, _ => absurd h (by omega)
  | n + 1, h, k => by
    show f t0 ≤ sm f n + f n
    have kn := k n (by omega)
    by_cases z : t0 = n
    · have : 0 ≤ sm f n := by
        clear h z
        induction n with
        | zero => exact Int.le_refl 0
        | succ n ih =>
          show 0 ≤ sm f n + f n
          have := ih (fun t ht => k t (by omega)) (k n (by omega))
          have := k n (by omega)
          omega
      rw [z]; omega
    · have := sm_le1 (f := f) (t0 := t0) n (by omega) (fun t ht => k t (by omega))
      omega
end AWY
end
section
/-! The reference: a way to a state. -/
section WAY
variable {G : mG} {d a g T R W C Z n L w w0 : Nat} {M M' M2 M3 : mM} {E : Eg9} {tg mul Sm : Int} {B : Nat → Nat} {P S : Nat → Prop}
abbrev wyP (a : Nat) : Nat → Prop := fun q => q = a + 99 ∨ q = a + 113
abbrev wyS (a : Nat) : Nat → Prop := fun x => woS a x ∨ x = a + 105 ∨ (a + 21185 ≤ x ∧ x ≤ a + 21188)
def wyF (M : mM) (a : Nat) (M' : mM) : Prop := Mv (wyP a) (wyS a) M a M' ∧ ∀ i, i ≠ 16 → i ≠ 17 → i ≠ 23 → i ≠ 29 → i ≠ 40 → mI M' a i = mI M a i
theorem wyP_in {q : Nat} (h : wyP a q) : q ∈ nums a := by
  rcases h with h | h
  · rw [h]; exact n99
  · rw [h]; exact k113
theorem wyS_un {x : Nat} (h : wyS a x) : x = a ∨ (a + 97 ≤ x ∧ x ≤ a + 98) ∨ (a + 102 ≤ x ∧ x ≤ a + 105) ∨ (a + 21185 ≤ x ∧ x ≤ a + 21188) := by
  have h' : (x = a ∨ x = a + 97 ∨ x = a + 98 ∨ x = a + 102 ∨ x = a + 103 ∨ x = a + 104) ∨ x = a + 105 ∨ (a + 21185 ≤ x ∧ x ≤ a + 21188) := h
  omega
theorem wyF.trans (h : wyF M a M2) (k : wyF M2 a M3) : wyF M a M3 := ⟨h.1.trans k.1, fun i i1 i2 i3 i4 i5 => (k.2 i i1 i2 i3 i4 i5).trans (h.2 i i1 i2 i3 i4 i5)⟩
theorem wyF.mk (w : Wd M a) (m : Mv P S M a M') (hP : ∀ q, P q → wyP a q) (hS : ∀ x, S x → wyS a x) (hf : ∀ i, i ≠ 16 → i ≠ 17 → i ≠ 23 → i ≠ 29 → i ≠ 40 → mI M' a i = mI M a i) : wyF M a M' := ⟨m.mono hP hS (fun q hq => w.lt (wyP_in hq)), hf⟩
/-- a way has been found -/
def wyQ (M : mM) (a g T R W C Z : Nat) (E : Eg9) (tg : Int) (n L w w0 : Nat) (mul Sm : Int) (B : Nat → Nat) (M' : mM) : Prop := wyF M a M' ∧ GG M' a g T R W C Z E tg ∧ En M' a g R W ∧ (mI M' a 16 ≠ 0 ∨ (mI M' a 16 = 0 ∧ ∃ n' w' : Nat, n ≤ n' ∧ (w' = w ∨ w' = w + 1) ∧ XD M' a g n' W L w' (L + 1) B ∧ Op M' a L w0 w' mul Sm))
theorem Op.same (h : Op M a L w0 w mul Sm) (c86 : mL M' (a + 21186) = mL M (a + 21186)) (c87 : mL M' (a + 21187) = mL M (a + 21187)) (l11 : sl M M' (a + 111)) (l13 : sl M M' (a + 113)) (l15 : sl M M' (a + 115)) : Op M' a L w0 w mul Sm := by
  unfold Op
  rw [c86, c87, l11.2, l13.2, l15.2]
  exact h
theorem Op.mv (h : Op M a L w0 w mul Sm) (w' : Wd M a) (m : Mv P S M a M') (hin : ∀ q, P q → q ∈ nums a) (hP : ∀ q, P q → q ≠ a + 111 ∧ q ≠ a + 113 ∧ q ≠ a + 115) (hS : ∀ x, S x → x ≠ a + 21186 ∧ x ≠ a + 21187) : Op M' a L w0 w mul Sm :=
  h.same (m.cellL w' hin (offx (a := a) (o := 21186) (by decide)) (fun z => (hS _ z).1 rfl)).2 (m.cellL w' hin (offx (a := a) (o := 21187) (by decide)) (fun z => (hS _ z).2 rfl)).2 (m.lst k111 (fun z => (hP _ z).1 rfl)).sl (m.lst k113 (fun z => (hP _ z).2.1 rfl)).sl (m.lst k115 (fun z => (hP _ z).2.2 rfl)).sl
end WAY
end
section
/-! The reference: way. -/
section WAY2
variable {G : mG} {d a g T R W C Z n L w w0 : Nat} {M M2 : mM} {E : Eg9} {tg mul Sm A D : Int} {B : Nat → Nat}
/-- inside way -/
def wI (M : mM) (a g T R W C Z : Nat) (E : Eg9) (tg : Int) (n L w w0 : Nat) (mul Sm A D : Int) (B : Nat → Nat) (b : Nat) (M2 : mM) : Prop := wyF M a M2 ∧ GG M2 a g T R W C Z E tg ∧ En M2 a g R W ∧ XD M2 a g n W L w (L + 1) B ∧ Op M2 a L w0 w mul Sm ∧ mL M2 (a + 21189) b = A ∧ mL M2 (a + 21190) b = D
/-- a step that leaves ways and states -/
theorem wI.st {b : Nat} {M3 : mM} {P S : Nat → Prop} (h : wI M a g T R W C Z E tg n L w w0 mul Sm A D B b M2) (m : Mv P S M2 a M3) (hP : ∀ q, P q → q = a + 99) (hS : ∀ x, S x → woS a x ∨ x = a + 21188) (hf : ∀ i, i ≠ 16 → i ≠ 17 → i ≠ 23 → mI M3 a i = mI M2 a i) (en : En M3 a g R W) : wI M a g T R W C Z E tg n L w w0 mul Sm A D B b M3 := by
  obtain ⟨h1, h2, h3, h4, h5, h6, h7⟩ := h
  have w2 := h2.2.1
  have hg := h2.2.2.1.2
  have hin : ∀ q, P q → q ∈ nums a := fun q hq => in99 q (hP q hq)
  have un : ∀ x, S x → x = a ∨ (a + 97 ≤ x ∧ x ≤ a + 98) ∨ (a + 102 ≤ x ∧ x ≤ a + 104) ∨ x = a + 21188 := fun x hx => by
    have h' : (x = a ∨ x = a + 97 ∨ x = a + 98 ∨ x = a + 102 ∨ x = a + 103 ∨ x = a + 104) ∨ x = a + 21188 := hS x hx
    omega
  have gs := gs_st w2 hg m hin (fun q hq z => by
    have z' : q = g + 1 ∨ q = g + 3 ∨ q = g + 5 ∨ q = g + 7 ∨ q = g + 9 ∨ q = g + 11 ∨ q = g + 30 ∨ q = g + 32 ∨ q = g + 34 := z
    have := hP q hq
    omega) (fun x hx => by have := un x hx; omega)
  refine ⟨h1.trans (wyF.mk w2 m (fun q hq => Or.inl (hP q hq)) (fun x hx => (hS x hx).imp (fun z => z) (fun z => Or.inr (by omega))) (fun i i1 i2 i3 _ _ => hf i i1 i2 i3)), h2.gs m.1 m.2.1 (by rw [m.rfl_a w2 hin]) gs, en, h4.mv w2 m hin (fun q hq => by have := hP q hq; omega) (fun x hx => by have := un x hx; omega) gs (hf 29 (by decide) (by decide) (by decide)) (hf 40 (by decide) (by decide) (by decide)), h5.mv w2 m hin (fun q hq => by have := hP q hq; omega) (fun x hx => by have := un x hx; omega), ?_, ?_⟩
  · rw [(m.cellL w2 hin (offx (a := a) (o := 21189) (by decide)) (fun z => by have := un _ z; omega)).2]; exact h6
  · rw [(m.cellL w2 hin (offx (a := a) (o := 21190) (by decide)) (fun z => by have := un _ z; omega)).2]; exact h7
theorem wI.x {b : Nat} {S' : Int} (h : wI M a g T R W C Z E tg n L w w0 mul Sm A D B b M2) (z : mI M2 a 16 ≠ 0) : wyQ M a g T R W C Z E tg n L w w0 mul S' B M2 := ⟨h.1, h.2.1, h.2.2.1, Or.inl z⟩
theorem wI.stp {b : Nat} {S' c p : Int} {M3 : mM} (h : wI M a g T R W C Z E tg n L w w0 mul Sm A D B b M2) (hc : c ≠ 0) (q : Mv (fun _ => False) (fun x => x = a) M2 a M3 ∧ mI M3 a 16 = c ∧ mI M3 a 17 = p ∧ ∀ i, i ≠ 16 → i ≠ 17 → mI M3 a i = mI M2 a i) : wyQ M a g T R W C Z E tg n L w w0 mul S' B M3 := by
  have w2 := h.2.1.2.1
  have hg := h.2.1.2.2.1.2
  have no : ∀ q : Nat, False → q ∈ nums a := fun _ z => z.elim
  have gs := gs_st w2 hg q.1 no (fun _ z => z.elim) (fun x z => by omega)
  have en := h.2.2.1.mv w2 q.1 no gs (fun x z => by omega)
  exact (h.st q.1 (fun _ z => z.elim) (fun x z => Or.inl (Or.inl z)) (fun i i1 i2 _ => q.2.2.2 i i1 i2) en).x (by rw [q.2.1]; exact hc)
end WAY2
end
