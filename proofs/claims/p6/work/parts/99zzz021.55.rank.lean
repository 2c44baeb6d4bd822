section
/-! Elimination of states: why each state loses something, and that a bound follows. -/
def pw (t : Rat) : Nat → Rat
  | 0 => 1
  | n + 1 => pw t n * t
theorem pw_pos {t : Rat} (h : 0 < t) : ∀ n, 0 < pw t n
  | 0 => by show (0 : Rat) < 1; grind
  | n + 1 => Rat.mul_pos (pw_pos h n) h
theorem pw_step {t : Rat} (h : 0 < t) (h1 : t ≤ 1) (n : Nat) : pw t (n + 1) ≤ pw t n := by
  have a : 0 ≤ pw t n * (1 - t) := Rat.mul_nonneg (Rat.le_of_lt (pw_pos h n)) (by grind)
  have e : pw t (n + 1) = pw t n * t := rfl
  grind
theorem pw_anti {t : Rat} (h : 0 < t) (h1 : t ≤ 1) {a : Nat} : ∀ (k : Nat), pw t (a + k) ≤ pw t a
  | 0 => by show pw t a ≤ pw t a; grind
  | k + 1 => by
    have h2 := pw_step h h1 (a + k)
    have h3 := pw_anti h h1 (a := a) k
    rw [show a + (k + 1) = a + k + 1 by omega]
    grind
theorem sr_one {f : Nat → Rat} {j : Nat} : ∀ (n : Nat), j < n → (∀ c, c < n → 0 ≤ f c) → f j ≤ sr f n
  | 0, hj, _ => by omega
  | n + 1, hj, h => by
    rw [sr]
    by_cases q : j = n
    · subst q
      have := sr_nonneg j (fun c hc => h c (by omega))
      grind
    · have h1 := sr_one (j := j) n (by omega) (fun c hc => h c (by omega))
      have h2 := h n (by omega)
      grind
theorem alg2 {c z w H : Rat} (e : w * H = 1) (d : 0 ≤ (c - z * w) * H) : z ≤ c * H := by
  have f : (c - z * w) * H = c * H - z * (w * H) := by grind
  rw [f, e] at d
  grind
section CE
variable {m : Nat} {p : Nat → Nat → Rat}
theorem gok0 {h : Nat → Rat} (h0 : ∀ i j, i < m → j ≤ m → 0 ≤ p i j) (h1 : ∀ i, i < m → sr (p i) (m + 1) ≤ 1) (h2 : ∀ i, i < m → 0 < h i) (h3 : ∀ i, i < m → sr (fun j => p i j * h j) m < h i) : gok m 0 p h := by
  refine ⟨fun i j hi _ hj => h0 i j hi hj, fun i hi => ?_, h2, fun i hi => ?_⟩
  · rw [sr_congr (g := p i) _ (fun t ht => by rw [Nat.zero_add])]
    exact h1 i hi
  · rw [sr_congr (g := fun j => p i j * h j) _ (fun t ht => by rw [Nat.zero_add])]
    exact h3 i hi
theorem gok0_h {h : Nat → Rat} (g : gok m 0 p h) {i : Nat} (hi : i < m) : sr (fun j => p i j * h j) m < h i := by
  have a := g.2.2.2 i hi
  rw [sr_congr (g := fun j => p i j * h j) _ (fun t ht => by rw [Nat.zero_add])] at a
  exact a
theorem cert {ρ : Nat → Nat} {u : Rat} (hu : 0 < u) (hu1 : u ≤ 1) (h0 : ∀ i j, i < m → j ≤ m → 0 ≤ p i j) (h1 : ∀ i, i < m → sr (p i) (m + 1) ≤ 1) (hr : ∀ i, i < m → sr (p i) m ≤ 1 - u ∨ ∃ j, j < m ∧ ρ j < ρ i ∧ u ≤ p i j) : ∃ h, gok m 0 p h := by
  have ht : 0 < u / 2 := by grind
  have ht1 : u / 2 ≤ 1 := by grind
  have htu : u / 2 < u := by grind
  generalize u / 2 = t at *
  have hs0 : ∀ n, 0 < pw t n := pw_pos ht
  have hs1 : ∀ n, pw t (n + 1) ≤ t := fun n => by
    have a := pw_anti ht ht1 (a := 1) n
    have e : pw t 1 = 1 * t := rfl
    rw [show 1 + n = n + 1 by omega] at a
    grind
  refine ⟨fun i => 1 - pw t (ρ i + 1), gok0 h0 h1 (fun i hi => ?_) (fun i hi => ?_)⟩
  · have := hs1 (ρ i)
    grind
  · have e : sr (fun j => p i j * (1 - pw t (ρ j + 1))) m = sr (p i) m - sr (fun j => p i j * pw t (ρ j + 1)) m := by
      have e1 : sr (fun j => p i j * (1 - pw t (ρ j + 1))) m = sr (fun j => p i j + (-1) * (p i j * pw t (ρ j + 1))) m := sr_congr m (fun j hj => by grind)
      rw [e1, sr_add, sr_mul]
      have e2 : sr (fun j => p i j) m = sr (p i) m := rfl
      grind
    have hn : ∀ c, c < m → 0 ≤ p i c * pw t (ρ c + 1) := fun c hc => Rat.mul_nonneg (h0 i c hi (by omega)) (Rat.le_of_lt (hs0 _))
    have hsm : sr (p i) m ≤ 1 := by
      have a := h1 i hi
      have b := h0 i m hi (by omega)
      rw [sr] at a
      grind
    show sr (fun j => p i j * (1 - pw t (ρ j + 1))) m < 1 - pw t (ρ i + 1)
    rw [e]
    rcases hr i hi with q | ⟨j, hj, q1, q2⟩
    · have a := sr_nonneg m hn
      have b := hs1 (ρ i)
      grind
    · have a := sr_one m hj hn
      have b : pw t (ρ i + 1) ≤ pw t (ρ j + 1) * t := by
        have c := pw_anti ht ht1 (a := ρ j + 2) (ρ i - ρ j - 1)
        rw [show ρ j + 2 + (ρ i - ρ j - 1) = ρ i + 1 by omega] at c
        exact c
      have c : 0 ≤ (p i j - u) * pw t (ρ j + 1) := Rat.mul_nonneg (by grind) (Rat.le_of_lt (hs0 _))
      have d : 0 < (u - t) * pw t (ρ j + 1) := Rat.mul_pos (by grind) (hs0 _)
      generalize pw t (ρ j + 1) = S at *
      generalize pw t (ρ i + 1) = R at *
      grind
theorem argmax (f : Nat → Rat) : ∀ n, 0 < n → ∃ i, i < n ∧ ∀ j, j < n → f j ≤ f i
  | 0, h => by omega
  | 1, _ => ⟨0, by omega, fun j hj => by rw [show j = 0 by omega]; exact Rat.le_refl⟩
  | n + 2, _ => by
    obtain ⟨i, hi, h⟩ := argmax f (n + 1) (by omega)
    by_cases q : f i ≤ f (n + 1)
    · refine ⟨n + 1, by omega, fun j hj => ?_⟩
      by_cases z : j = n + 1
      · rw [z]; exact Rat.le_refl
      · have := h j (by omega)
        grind
    · refine ⟨i, by omega, fun j hj => ?_⟩
      by_cases z : j = n + 1
      · rw [z]; grind
      · exact h j (by omega)
theorem maxp {h : Nat → Rat} (g : gok m 0 p h) {z : Nat → Rat} (hz : ∀ i, i < m → z i ≤ sr (fun j => p i j * z j) m) : ∀ i, i < m → z i ≤ 0 := by
  intro i0 hi0
  obtain ⟨i, hi, hm⟩ := argmax (fun i => z i * (h i)⁻¹) m (by omega)
  have hh := g.2.2.1
  have hc : ∀ j, j < m → z j ≤ (z i * (h i)⁻¹) * h j := fun j hj => by
    have a := hm j hj
    have b := hh j hj
    have c : (h j)⁻¹ * h j = 1 := Rat.inv_mul_cancel _ (by grind)
    have d : 0 ≤ (z i * (h i)⁻¹ - z j * (h j)⁻¹) * h j := Rat.mul_nonneg (by grind) (Rat.le_of_lt b)
    exact alg2 c d
  have hi1 : (z i * (h i)⁻¹) * h i = z i := by
    have b := hh i hi
    have c : (h i)⁻¹ * h i = 1 := Rat.inv_mul_cancel _ (by grind)
    grind
  generalize hcc : z i * (h i)⁻¹ = c at *
  by_cases q : c ≤ 0
  · have a := hc i0 hi0
    have b := Rat.mul_nonneg (a := -c) (b := h i0) (by grind) (Rat.le_of_lt (hh i0 hi0))
    grind
  · exfalso
    have a := gok0_h g hi
    have b : sr (fun j => p i j * z j) m ≤ sr (fun j => c * (p i j * h j)) m := sr_le m (fun j hj => by
      have x := hc j hj
      have y := Rat.mul_nonneg (a := p i j) (b := c * h j - z j) (g.1 i j hi (by omega) (by omega)) (by grind)
      grind)
    rw [sr_mul] at b
    have d := hz i hi
    have e : 0 < c * (h i - sr (fun j => p i j * h j) m) := Rat.mul_pos (by grind) (by grind)
    grind
end CE
end
section
/-! The value of a fraction of the reference. -/
def fv (M : mM) (f : Nat) : Rat := (sn M f : Rat) * (sd M f : Rat)⁻¹
theorem ic_ne {x : Int} (h : 0 < x) : (x : Rat) ≠ 0 := fun w => by
  have w2 : x = 0 := by exact_mod_cast w
  omega
theorem fv_of {X Y N D : Int} (hY : 0 < Y) (hD : (D : Rat) ≠ 0) (e : X * D = N * Y) : (X : Rat) * (Y : Rat)⁻¹ = (N : Rat) * (D : Rat)⁻¹ := by
  have e1 : (X : Rat) * (D : Rat) = (N : Rat) * (Y : Rat) := by rw [← Rat.intCast_mul, ← Rat.intCast_mul, e]
  have e2 := Rat.mul_inv_cancel _ (ic_ne hY)
  have e3 := Rat.mul_inv_cancel _ hD
  generalize (Y : Rat)⁻¹ = y at *
  generalize (D : Rat)⁻¹ = d at *
  generalize (X : Rat) = x at *
  generalize (N : Rat) = n at *
  generalize (Y : Rat) = Y at *
  generalize (D : Rat) = D at *
  have e4 : x * y * (D * d) = n * d * (Y * y) := by grind
  rw [e3, e2] at e4
  grind
section FV
variable {M M' : mM} {u a b ra rb : Nat}
theorem fv_mul (hA : Fq M a ra) (hB : Fq M b rb) (h : suQ M u (sn M a * sn M b) (sd M a * sd M b) M') : fv M' (u + 1) = fv M a * fv M b := by
  have p1 : 0 < sd M a := hA.2.2.2.2
  have p2 : 0 < sd M b := hB.2.2.2.2
  have p3 : 0 < sd M' (u + 1) := h.2.2.2.1.2.2.2.2
  have e := fv_of p3 (ic_ne (Int.mul_pos p1 p2)) h.2.2.2.2.2
  unfold fv
  rw [e, Rat.intCast_mul, Rat.intCast_mul]
  have e2 := Rat.mul_inv_cancel _ (ic_ne p1)
  have e3 := Rat.mul_inv_cancel _ (ic_ne p2)
  have e4 : ((sd M a : Rat) * (sd M b : Rat))⁻¹ = (sd M a : Rat)⁻¹ * (sd M b : Rat)⁻¹ := by grind
  rw [e4]
  grind
theorem fv_add {m : Int} (hm : m = 0 ∨ m = 1) (hA : Fq M a ra) (hB : Fq M b rb) (h : suQ M u (sn M a * sd M b + (if m = 1 then - (sn M b * sd M a) else sn M b * sd M a)) (sd M a * sd M b) M') : fv M' (u + 1) = if m = 1 then fv M a - fv M b else fv M a + fv M b := by
  have p1 : 0 < sd M a := hA.2.2.2.2
  have p2 : 0 < sd M b := hB.2.2.2.2
  have p3 : 0 < sd M' (u + 1) := h.2.2.2.1.2.2.2.2
  have e := fv_of p3 (ic_ne (Int.mul_pos p1 p2)) h.2.2.2.2.2
  have e2 := Rat.mul_inv_cancel _ (ic_ne p1)
  have e3 := Rat.mul_inv_cancel _ (ic_ne p2)
  have e4 : ((sd M a : Rat) * (sd M b : Rat))⁻¹ = (sd M a : Rat)⁻¹ * (sd M b : Rat)⁻¹ := by grind
  unfold fv
  rw [e, Rat.intCast_mul (sd M a), e4, Rat.intCast_add, Rat.intCast_mul]
  generalize hx : (sd M a : Rat)⁻¹ = x at *
  generalize hy : (sd M b : Rat)⁻¹ = y at *
  rcases hm with q | q
  · rw [if_neg (by omega), if_neg (by omega), Rat.intCast_mul]
    grind
  · rw [if_pos q, if_pos q, Rat.intCast_neg, Rat.intCast_mul]
    grind
theorem fv_set {M : mM} {f : Nat} {j k : Int} (h1 : sn M f = j) (h2 : sd M f = k) : fv M f = (j : Rat) * (k : Rat)⁻¹ := by
  unfold fv
  rw [h1, h2]
/-- in lowest terms: what makes the value whole is a multiple of the bottom -/
theorem fc_dvd {M : mM} {f r : Nat} {E z : Int} (hF : Fq M f r) (hC : Fc M f) (h : fv M f * (E : Rat) = (z : Rat)) : sd M f ∣ E := by
  have p : 0 < sd M f := hF.2.2.2.2
  have e : sn M f * E = z * sd M f := by
    have e1 : ((sn M f * E : Int) : Rat) = ((z * sd M f : Int) : Rat) := by
      rw [Rat.intCast_mul, Rat.intCast_mul, ← h]
      unfold fv
      have e2 := Rat.mul_inv_cancel _ (ic_ne p)
      grind
    exact_mod_cast e1
  have hn := hF.2.1.nonneg
  have e3 : (sn M f).natAbs = xn M (f + 1) := by
    unfold sn xn
    split <;> omega
  have e4 : (sd M f).natAbs = xn M (f + 3) := by
    have : sd M f = wv M (f + 3) := rfl
    unfold xn
    omega
  have hc : Nat.Coprime (sd M f).natAbs (sn M f).natAbs := by
    unfold Nat.Coprime
    rw [e3, e4, Nat.gcd_comm]
    exact hC.1
  have hd : (sd M f).natAbs ∣ (sn M f).natAbs * E.natAbs := by
    rw [← Int.natAbs_mul, e, Int.natAbs_mul]
    exact Nat.dvd_mul_left _ _
  exact Int.natAbs_dvd_natAbs.1 (hc.dvd_of_dvd_mul_left hd)
end FV
end
section
/-! Values: quotients and sizes; the solver's cells. -/
section FV
variable {M M' : mM} {u a b ra rb : Nat}
theorem fv_div (hA : Fq M a ra) (hB : Fq M b rb) (hb : sn M b ≠ 0) (h : suQ M u (sn M a * sd M b) (sd M a * sn M b) M') : fv M' (u + 1) * fv M b = fv M a := by
  have p1 : 0 < sd M a := hA.2.2.2.2
  have p2 : 0 < sd M b := hB.2.2.2.2
  have p3 : 0 < sd M' (u + 1) := h.2.2.2.1.2.2.2.2
  have hbr : (sn M b : Rat) ≠ 0 := fun w => hb (by exact_mod_cast w)
  have hn : ((sd M a * sn M b : Int) : Rat) ≠ 0 := fun w => by
    have w2 : sd M a * sn M b = 0 := by exact_mod_cast w
    rcases Int.mul_eq_zero.1 w2 with q | q
    · omega
    · exact hb q
  have e := fv_of p3 hn h.2.2.2.2.2
  have e2 := Rat.mul_inv_cancel _ (ic_ne p1)
  have e3 := Rat.mul_inv_cancel _ (ic_ne p2)
  have e5 := Rat.mul_inv_cancel _ hbr
  unfold fv
  rw [e, Rat.intCast_mul, Rat.intCast_mul]
  have e4 : ((sd M a : Rat) * (sn M b : Rat))⁻¹ = (sd M a : Rat)⁻¹ * (sn M b : Rat)⁻¹ := by grind
  rw [e4]
  grind
/-- how many parts a fraction in lowest terms takes -/
theorem fc_size {M : mM} {f r k : Nat} {E z : Int} (hF : Fq M f r) (hC : Fc M f) (h : fv M f * (E : Rat) = (z : Rat)) (hE0 : 0 < E) (hE : E < 16777216 ^ k) (hv : sn M f ≤ sd M f) (hv2 : - sd M f ≤ sn M f) : mI M (f + 1) 1 ≤ k ∧ mI M (f + 3) 1 ≤ k := by
  have hd := Int.le_of_dvd hE0 (fc_dvd hF hC h)
  have e1 : sd M f = wv M (f + 3) := rfl
  have hn := hF.2.1.nonneg
  have e2 : wv M (f + 1) ≤ sd M f := by
    unfold sn at hv hv2
    split at hv <;> omega
  exact ⟨hF.2.1.size (by omega), hF.2.2.1.size (by omega)⟩
end FV
/-- the cell of row i, column j -/
abbrev cel (s i j : Nat) : Nat := s + 12868 + 5 * (41 * i + j)
section VS
variable {G : mG} {d s : Nat} {M : mM}
theorem s_MS_cell {i j : Nat} (hi : i < 40) (hj : j < 41) (hO : mOk M) (hV : Vk M s) : Cr G y_MS_cell d [vr s, vi i, vi j] M (fun x M' => M' = M ∧ x = cel s i j) := by
  refine k_MS_cell hO ⟨by omega, by omega⟩ ⟨by omega, by omega⟩ ?_
  rw [hV.r25, hV.n41, show (41 * (i : Int) + (j : Int)).toNat = 41 * i + j by omega, hV.f41 _ (by omega)]
  exact ⟨hV.k0, hV.k41, by omega, rfl, rfl⟩
end VS
end
section
/-! The solver's table of fractions. -/
/-- a value that 56 parts hold -/
def Sml (x : Rat) : Prop := ∃ E z : Int, 0 < E ∧ E < 16777216 ^ 56 ∧ x * (E : Rat) = (z : Rat) ∧ x ≤ 1 ∧ -1 ≤ x
theorem fv_sd {M : mM} {f r : Nat} (hF : Fq M f r) : fv M f * (sd M f : Rat) = (sn M f : Rat) := by
  have p : 0 < sd M f := hF.2.2.2.2
  have e := Rat.mul_inv_cancel _ (ic_ne p)
  unfold fv
  grind
theorem ic_le {x y : Int} (h : (x : Rat) ≤ (y : Rat)) : x ≤ y := by exact_mod_cast h
theorem sml_size {M : mM} {f r : Nat} (hF : Fq M f r) (hC : Fc M f) (h : Sml (fv M f)) : mI M (f + 1) 1 ≤ 56 ∧ mI M (f + 3) 1 ≤ 56 := by
  obtain ⟨E, z, h0, h1, h2, h3, h4⟩ := h
  have p : 0 < sd M f := hF.2.2.2.2
  have pr : (0 : Rat) ≤ (sd M f : Rat) := Rat.le_of_lt (Rat.intCast_pos.2 p)
  have e := fv_sd hF
  have a1 : 0 ≤ (1 - fv M f) * (sd M f : Rat) := Rat.mul_nonneg (by grind) pr
  have a2 : 0 ≤ (1 + fv M f) * (sd M f : Rat) := Rat.mul_nonneg (by grind) pr
  have b1 : sn M f ≤ sd M f := ic_le (by grind)
  have b2 : - sd M f ≤ sn M f := ic_le (by rw [Rat.intCast_neg]; grind)
  exact fc_size hF hC h2 h0 h1 b1 b2
/-- m rows hold A -/
def Tb (M : mM) (s m : Nat) (A : Nat → Nat → Rat) : Prop := ∀ i j, i < m → j ≤ m → Fq M (cel s i j) 56 ∧ Fc M (cel s i j) ∧ fv M (cel s i j) = A i j
theorem fv_out {S : Nat → Prop} {M M' : mM} {f r : Nat} (h : Fq M f r) (k : FI S M M') (hs : ∀ x, S x → x < f ∨ f + 4 < x) : fv M' f = fv M f := by
  have e := h.out k hs
  unfold fv
  rw [e.2.1, e.2.2.1]
theorem Tb.out {S : Nat → Prop} {M M' : mM} {s m : Nat} {A : Nat → Nat → Rat} (h : Tb M s m A) (k : FI S M M') (hs : ∀ x, S x → x < s + 12868) : Tb M' s m A := by
  intro i j hi hj
  obtain ⟨h1, h2, h3⟩ := h i j hi hj
  have hs' : ∀ x, S x → x < cel s i j ∨ cel s i j + 4 < x := fun x q => Or.inl (by have := hs x q; unfold cel; omega)
  exact ⟨(h1.out k hs').1, h2.out h1 k hs', by rw [fv_out h1 k hs', h3]⟩
/-- one cell is written anew -/
theorem Tb.put {M M' : mM} {s m i j : Nat} {A : Nat → Nat → Rat} {v : Rat} (h : Tb M s m A) (hm : m ≤ 40) (hi : i < m) (hj : j ≤ m) (k : FI (fS (cel s i j)) M M') (h1 : Fq M' (cel s i j) 56) (h2 : Fc M' (cel s i j)) (h3 : fv M' (cel s i j) = v) : Tb M' s m (fun a b => if a = i ∧ b = j then v else A a b) := by
  intro a b ha hb
  by_cases q : a = i ∧ b = j
  · obtain ⟨q1, q2⟩ := q
    subst q1 q2
    exact ⟨h1, h2, h3.trans (if_pos ⟨rfl, rfl⟩).symm⟩
  · obtain ⟨g1, g2, g3⟩ := h a b ha hb
    have hs' : ∀ x, fS (cel s i j) x → x < cel s a b ∨ cel s a b + 4 < x := fun x w => by
      have w' : cel s i j ≤ x ∧ x ≤ cel s i j + 4 := w
      unfold cel at w' ⊢
      by_cases z : a = i
      · subst z
        have : b ≠ j := fun y => q ⟨rfl, y⟩
        omega
      · omega
    refine ⟨(g1.out k hs').1, g2.out g1 k hs', ?_⟩
    rw [fv_out g1 k hs', g3]
    exact (if_neg q).symm
/-- the solver's other fractions have room -/
def Wk (M : mM) (s : Nat) : Prop := Sz M (s + 1) ∧ Ft M (s + 42) 8 ∧ Ft M (s + 47) 56 ∧ Ft M (s + 52) 900 ∧ Ft M (s + 57) 900 ∧ Ft M (s + 62) 900
theorem fc_copy {M M' : mM} {a b : Nat} (hC : Fc M b) (e1 : wv M' (a + 1) = wv M (b + 1)) (e2 : wv M' (a + 3) = wv M (b + 3)) (e3 : mI M' a 2 = mI M b 2) : Fc M' a ∧ fv M' a = fv M b := by
  refine ⟨?_, ?_⟩
  · unfold Fc xn at hC ⊢
    rw [e1, e2, e3]
    exact hC
  · unfold fv sn sd
    rw [e1, e2, e3]
end
section
/-! The solver: one row is cleared of a column. -/
abbrev cR (s m : Nat) : Nat → Prop := fun x => s + 12868 ≤ x ∧ x < s + 12868 + 205 * m ∧ (x - (s + 12868)) % 205 < 5 * m + 5
abbrev cS (s m : Nat) : Nat → Prop := fun x => (s + 2 ≤ x ∧ x ≤ s + 21) ∨ (s + 47 ≤ x ∧ x ≤ s + 51) ∨ (s + 57 ≤ x ∧ x ≤ s + 61) ∨ cR s m x
theorem fv_abs {M : mM} {f r : Nat} (hF : Fq M f r) (h1 : fv M f ≤ 1) (h2 : -1 ≤ fv M f) : sn M f ≤ sd M f ∧ - sd M f ≤ sn M f := by
  have p : 0 < sd M f := hF.2.2.2.2
  have pr : (0 : Rat) ≤ (sd M f : Rat) := Rat.le_of_lt (Rat.intCast_pos.2 p)
  have e := fv_sd hF
  have a1 : 0 ≤ (1 - fv M f) * (sd M f : Rat) := Rat.mul_nonneg (by grind) pr
  have a2 : 0 ≤ (1 + fv M f) * (sd M f : Rat) := Rat.mul_nonneg (by grind) pr
  exact ⟨ic_le (by grind), ic_le (by rw [Rat.intCast_neg]; grind)⟩
theorem abs_mul1 {x y : Rat} (h1 : x ≤ 1) (h2 : -1 ≤ x) (h3 : y ≤ 1) (h4 : -1 ≤ y) : x * y ≤ 1 ∧ -1 ≤ x * y := by
  have a := Rat.mul_nonneg (a := 1 - x) (b := 1 + y) (by grind) (by grind)
  have b := Rat.mul_nonneg (a := 1 + x) (b := 1 - y) (by grind) (by grind)
  have c := Rat.mul_nonneg (a := 1 - x) (b := 1 - y) (by grind) (by grind)
  have d := Rat.mul_nonneg (a := 1 + x) (b := 1 + y) (by grind) (by grind)
  constructor <;> grind
theorem Wk.out {S : Nat → Prop} {M M' : mM} {s : Nat} (h : Wk M s) (k : FI S M M') (hz : Sz M' (s + 1)) (hs : ∀ x, S x → x < s + 42 ∨ s + 66 < x) : Wk M' s :=
  ⟨hz, h.2.1.out k (fun x q => by have := hs x q; omega), h.2.2.1.out k (fun x q => by have := hs x q; omega), h.2.2.2.1.out k (fun x q => by have := hs x q; omega), h.2.2.2.2.1.out k (fun x q => by have := hs x q; omega), h.2.2.2.2.2.out k (fun x q => by have := hs x q; omega)⟩
theorem Sz.far {S : Nat → Prop} {M M' : mM} {u : Nat} (h : Sz M u) (k : FI S M M') (hs : ∀ x, S x → x < u ∨ u + 20 < x) : Sz M' u :=
  ⟨h.1.fi k, h.2.1.fi k, h.2.2.1.fi k, fun e he => (h.wh e he).out k (fun q => by
    have h1 : ∀ e ∈ szL, 1 ≤ e ∧ e ≤ 20 := by decide
    have h2 := h1 e he
    have := hs _ q
    omega)⟩
section VS
variable {G : mG} {d s m : Nat} {M : mM} {A : Nat → Nat → Rat}
/-- a product of two small ones takes at most 112 parts -/
theorem mul_size {M M' : mM} {u a b : Nat} (hA : Fq M a 56) (hB : Fq M b 56) (h : suQ M u (sn M a * sn M b) (sd M a * sd M b) M') (x1 : fv M a ≤ 1) (x2 : -1 ≤ fv M a) (y1 : fv M b ≤ 1) (y2 : -1 ≤ fv M b) : mI M' (u + 1 + 1) 1 ≤ 112 ∧ mI M' (u + 1 + 3) 1 ≤ 112 := by
  have e := fv_mul hA hB h
  have p1 : 0 < sd M a := hA.2.2.2.2
  have p2 : 0 < sd M b := hB.2.2.2.2
  have hF := h.2.2.2.1
  have b1 := abs_mul1 x1 x2 y1 y2
  rw [← e] at b1
  have b2 := fv_abs hF b1.1 b1.2
  have l1 : sd M a < 16777216 ^ 56 := Int.lt_of_lt_of_le hA.2.2.1.lt (pow_mono (by have := hA.2.2.1.1.2.2.2.2.2.2; omega))
  have l2 : sd M b < 16777216 ^ 56 := Int.lt_of_lt_of_le hB.2.2.1.lt (pow_mono (by have := hB.2.2.1.1.2.2.2.2.2.2; omega))
  have l3 : sd M a * sd M b < 16777216 ^ 112 := by
    rw [show (16777216 : Int) ^ 112 = 16777216 ^ 56 * 16777216 ^ 56 from Int.pow_add 16777216 56 56]
    exact mul_lt_B l1 l2 (by omega) (by omega)
  refine fc_size hF h.2.2.2.2.1 (E := sd M a * sd M b) (z := sn M a * sn M b) ?_ (Int.mul_pos p1 p2) l3 b2.1 b2.2
  rw [e, Rat.intCast_mul, Rat.intCast_mul, ← fv_sd hA, ← fv_sd hB]
  grind
end VS
end
section
/-! The solver: one row is cleared of a column, the loop. -/
section VS
variable {G : mG} {d s m : Nat} {M : mM} {A : Nat → Nat → Rat}
abbrev ccA (A : Nat → Nat → Rat) (i k j : Nat) : Nat → Nat → Rat := fun a b => if a = i ∧ k ≤ b ∧ b < j then A i b - A i k * A k b else A a b
theorem ccA_step {A : Nat → Nat → Rat} {i k j : Nat} (hj : k ≤ j) : (fun a b => if a = i ∧ b = j then A i j - A i k * A k j else ccA A i k j a b) = ccA A i k (j + 1) := by
  funext a b
  by_cases q : a = i ∧ b = j
  · show (if a = i ∧ b = j then A i j - A i k * A k j else _) = if a = i ∧ k ≤ b ∧ b < j + 1 then A i b - A i k * A k b else A a b
    rw [if_pos q, if_pos ⟨q.1, by omega, by omega⟩, q.2]
  · show (if a = i ∧ b = j then A i j - A i k * A k j else (if a = i ∧ k ≤ b ∧ b < j then A i b - A i k * A k b else A a b)) = if a = i ∧ k ≤ b ∧ b < j + 1 then A i b - A i k * A k b else A a b
    rw [if_neg q]
    by_cases z : a = i ∧ k ≤ b ∧ b < j
    · rw [if_pos z, if_pos ⟨z.1, z.2.1, by omega⟩]
    · rw [if_neg z, if_neg (fun w => z ⟨w.1, w.2.1, by have : b ≠ j := fun y => q ⟨w.1, y⟩; omega⟩)]
theorem s_MS_clearColumn {i k : Nat} (hm : m ≤ 40) (hi : i < m) (hk : k < m) (hik : i ≠ k) (hO : mOk M) (hV : Vk M s) (h24 : mI M s 24 = m) (hW : Wk M s) (hT : Tb M s m A) (hA : ∀ a b, a < m → b ≤ m → A a b ≤ 1 ∧ -1 ≤ A a b) (hS : ∀ b, k ≤ b → b ≤ m → Sml (A i b - A i k * A k b)) :
    Cv G y_MS_clearColumn (d + 5) [vr s, vi i, vi k] M (fun M' => mOk M' ∧ FI (cS s m) M M' ∧ Wk M' s ∧ Tb M' s m (ccA A i k (m + 1))) := by
  have hik0 := hT i k hi (by omega)
  refine k_MS_clearColumn hO ⟨by omega, by omega⟩ ⟨by omega, by omega⟩ ⟨hV.k0, (s_MS_cell (by omega) (by omega) hO hV).mono (fun x M1 h1 => ?_)⟩
  obtain ⟨e1, hx⟩ := h1
  subst e1 hx
  rw [hV.r27]
  refine ⟨hO, hW.2.2.1.1.1, (s_MF_copy hO hW.2.2.1 hik0.1 (by unfold cel; omega) hik0.1.2.1.1.2.2.2.2.2.2 hik0.1.2.2.1.1.2.2.2.2.2.2).mono (fun M2 h2 => ?_)⟩
  obtain ⟨g1, g2, g3, g4, g5, g6⟩ := h2
  have hf := fc_copy hik0.2.1 g4 g5 g6
  refine ⟨g1, ?_⟩
  suffices H : ∀ (n j : Nat) (M2 : mM), j + n = m + 1 → k ≤ j → mOk M2 → FI (cS s m) M1 M2 → Wk M2 s → Fq M2 (s + 47) 56 → fv M2 (s + 47) = A i k → Tb M2 s m (ccA A i k j) → h_MS_clearColumn_15 G (d + 4) s i k j M2 (fun M' => mOk M' ∧ FI (cS s m) M1 M' ∧ Wk M' s ∧ Tb M' s m (ccA A i k (m + 1))) by
    refine H (m + 1 - k) k M2 (by omega) (by omega) g1 (g2.mono (fun x q => by have : s + 47 ≤ x ∧ x ≤ s + 47 + 4 := q; omega)) ⟨hW.1.far g2 (fun x q => by have : s + 47 ≤ x ∧ x ≤ s + 47 + 4 := q; omega), hW.2.1.out g2 (fun x q => by have : s + 47 ≤ x ∧ x ≤ s + 47 + 4 := q; omega), g3.ft, hW.2.2.2.1.out g2 (fun x q => by have : s + 47 ≤ x ∧ x ≤ s + 47 + 4 := q; omega), hW.2.2.2.2.1.out g2 (fun x q => by have : s + 47 ≤ x ∧ x ≤ s + 47 + 4 := q; omega), hW.2.2.2.2.2.out g2 (fun x q => by have : s + 47 ≤ x ∧ x ≤ s + 47 + 4 := q; omega)⟩ g3 (hf.2.trans hik0.2.2) ?_
    have hT2 := hT.out g2 (fun x q => by have : s + 47 ≤ x ∧ x ≤ s + 47 + 4 := q; omega)
    intro a b ha hb
    obtain ⟨t1, t2, t3⟩ := hT2 a b ha hb
    refine ⟨t1, t2, t3.trans ?_⟩
    show A a b = if a = i ∧ k ≤ b ∧ b < k then _ else A a b
    rw [if_neg (by omega)]
  clear hf g6 g5 g4 g3 g2 g1 M2
  intro n
  induction n with
  | zero =>
    intro j M2 hn hkj o2 f2 W2 F2 v2 T2
    have es : mI M2 s = mI M1 s := f2.2.2.2.2.2.2 s (by omega)
    refine k_MS_clearColumn_15 o2 ⟨by omega, by omega⟩ ⟨by omega, by omega⟩ ⟨by omega, by omega⟩ ?_
    rw [es, h24]
    have ej : j = m + 1 := by omega
    rw [ej] at T2
    exact ⟨(hV.fi f2).k0, fun _ => ⟨o2, f2, W2, T2⟩, fun c => by omega⟩
  | succ n ih =>
    intro j M2 hn hkj o2 f2 W2 F2 v2 T2
    have hV2 := hV.fi f2
    have es : mI M2 s = mI M1 s := f2.2.2.2.2.2.2 s (by omega)
    have ck := T2 k j hk (by omega)
    have ci := T2 i j hi (by omega)
    have vk : fv M2 (cel s k j) = A k j := ck.2.2.trans (if_neg (by omega))
    have vi' : fv M2 (cel s i j) = A i j := ci.2.2.trans (if_neg (by omega))
    refine k_MS_clearColumn_15 o2 ⟨by omega, by omega⟩ ⟨by omega, by omega⟩ ⟨by omega, by omega⟩ ?_
    rw [es, h24]
    refine ⟨hV2.k0, fun c => by omega, fun _ => (s_MS_cell (by omega) (by omega) o2 hV2).mono (fun x M3 h3 => ?_)⟩
    obtain ⟨e3, hx⟩ := h3
    subst e3 hx
    refine ⟨o2, ck.1.1.1, (s_MF_isZero o2 ck.1).mono (fun y M4 h4 => ?_)⟩
    obtain ⟨e4, hy⟩ := h4
    subst e4
    refine ⟨⟨by split at hy <;> omega, by split at hy <;> omega⟩, o2, fun c => ⟨hV2.k0, (s_MS_cell (by omega) (by omega) o2 hV2).mono (fun x M5 h5 => ?_)⟩, fun c => ?_⟩
    · obtain ⟨e5, hx⟩ := h5
      subst e5 hx
      rw [hV2.r0, hV2.r27]
      have ak := hA i k hi (by omega)
      have akj := hA k j hk (by omega)
      have z1 := F2.2.1.1.2.2.2.2.2.2
      have z2 := F2.2.2.1.1.2.2.2.2.2.2
      have z3 := ck.1.2.1.1.2.2.2.2.2.2
      have z4 := ck.1.2.2.1.1.2.2.2.2.2.2
      refine ⟨o2, W2.1.1.1, (s_MU_multiply (d := d) o2 W2.1 F2 ck.1 (by omega) (by unfold suO cel; omega) (by omega) (by omega)).mono (fun M6 h6 => ?_)⟩
      have hsz := mul_size F2 ck.1 h6 (by rw [v2]; exact ak.1) (by rw [v2]; exact ak.2) (by rw [vk]; exact akj.1) (by rw [vk]; exact akj.2)
      have hv6 := fv_mul F2 ck.1 h6
      rw [v2, vk] at hv6
      obtain ⟨q1, q2, q3, q4, q5, -⟩ := h6
      have q2' : FI (fun x => s + 2 ≤ x ∧ x ≤ s + 21) M5 M6 := q2.mono (fun x q => by omega)
      have V6 := hV2.fi q2
      have W6 : Wk M6 s := W2.out q2' q3 (fun x q => by omega)
      have F6 := (F2.out q2' (fun x q => by omega)).1
      have v6 : fv M6 (s + 47) = A i k := (fv_out F2 q2' (fun x q => by omega)).trans v2
      have T6 := T2.out q2' (fun x q => by omega)
      refine ⟨q1, V6.k0, ?_⟩
      rw [V6.r0, V6.r29, q3.1.2.1]
      refine ⟨q3.1.1, W6.2.2.2.2.1.1.1, (s_MF_copy q1 W6.2.2.2.2.1 q4 (by omega) (by omega) (by omega)).mono (fun M7 h7 => ?_)⟩
      obtain ⟨r1, r2, r3, r4, r5, r6⟩ := h7
      have hf7 := fc_copy q5 r4 r5 r6
      have r2' : FI (fun x => s + 57 ≤ x ∧ x ≤ s + 61) M6 M7 := r2
      have V7 := V6.fi r2
      have Z7 := q3.far r2' (fun x q => by omega)
      have W7 : Wk M7 s := ⟨Z7, W6.2.1.out r2' (fun x q => by omega), W6.2.2.1.out r2' (fun x q => by omega), W6.2.2.2.1.out r2' (fun x q => by omega), r3.ft, W6.2.2.2.2.2.out r2' (fun x q => by omega)⟩
      have F7 := (F6.out r2' (fun x q => by omega)).1
      have v7 : fv M7 (s + 47) = A i k := (fv_out F6 r2' (fun x q => by omega)).trans v6
      have T7 := T6.out r2' (fun x q => by omega)
      have ci7 := T7 i j hi (by omega)
      have vi7 : fv M7 (cel s i j) = A i j := ci7.2.2.trans (if_neg (by omega))
      have s57 : mI M7 (s + 57 + 1) 1 ≤ 112 := Int.le_trans (r3.2.1.le q4.2.1 (by rw [r4]; omega)) hsz.1
      have s573 : mI M7 (s + 57 + 3) 1 ≤ 112 := Int.le_trans (r3.2.2.1.le q4.2.2.1 (by rw [r5]; omega)) hsz.2
      have z5 := ci7.1.2.1.1.2.2.2.2.2.2
      have z6 := ci7.1.2.2.1.1.2.2.2.2.2.2
      refine ⟨r1, V7.k0, (s_MS_cell (by omega) (by omega) r1 V7).mono (fun x M8 h8 => ?_)⟩
      obtain ⟨e8, hx⟩ := h8
      subst e8 hx
      rw [V7.r0, V7.r29]
      refine ⟨r1, V7.k0, Z7.1.1, (s_MU_add (d := d) (Or.inr rfl) r1 Z7 ci7.1 r3 (by unfold suO cel; omega) (by omega) (by omega) (by omega) (by omega)).mono (fun M9 h9 => ?_)⟩
      have hv9 := fv_add (Or.inr rfl) ci7.1 r3 h9
      rw [if_pos rfl, vi7, hf7.2, hv6] at hv9
      obtain ⟨t1, t2, t3, t4, t5, -⟩ := h9
      have t2' : FI (fun x => s + 2 ≤ x ∧ x ≤ s + 21) M8 M9 := t2.mono (fun x q => by omega)
      have V9 := V7.fi t2
      have W9 : Wk M9 s := W7.out t2' t3 (fun x q => by omega)
      have F9 := (F7.out t2' (fun x q => by omega)).1
      have v9 : fv M9 (s + 47) = A i k := (fv_out F7 t2' (fun x q => by omega)).trans v7
      have T9 := T7.out t2' (fun x q => by omega)
      have ci9 := T9 i j hi (by omega)
      have hsm := sml_size t4 t5 (by rw [hv9]; exact hS j hkj (by omega))
      refine ⟨t1, V9.k0, (s_MS_cell (by omega) (by omega) t1 V9).mono (fun x M10 h10 => ?_)⟩
      obtain ⟨e10, hx⟩ := h10
      subst e10 hx
      rw [V9.r0, t3.1.2.1]
      refine ⟨t1, V9.k0, t3.1.1, ci9.1.1.1, (s_MF_copy t1 ci9.1.ft t4 (by unfold cel; omega) hsm.1 hsm.2).mono (fun M11 h11 => ?_)⟩
      obtain ⟨w1, w2, w3, w4, w5, w6⟩ := h11
      have hf11 := fc_copy t5 w4 w5 w6
      have w2' : FI (cR s m) M10 M11 := w2.mono (fun x q => by have q' : cel s i j ≤ x ∧ x ≤ cel s i j + 4 := q; unfold cel at q'; omega)
      have T11 := T9.put hm hi (by omega) w2 w3 hf11.1 (hf11.2.trans hv9)
      rw [ccA_step hkj] at T11
      have fin := ih (j + 1) M11 (by omega) (by omega) w1 ((((f2.trans (q2'.mono (fun x q => by omega))).trans (r2'.mono (fun x q => by omega))).trans (t2'.mono (fun x q => by omega))).trans (w2'.mono (fun x q => by omega))) (W9.out w2' (t3.far w2' (fun x q => by omega)) (fun x q => by omega)) ((F9.out w2' (fun x q => by omega)).1) ((fv_out F9 w2' (fun x q => by omega)).trans v9) T11
      exact ⟨w1, fin⟩
    · have hz : sn M4 (cel s k j) = 0 := by
        by_cases q : sn M4 (cel s k j) = 0
        · exact q
        · rw [if_neg q] at hy; omega
      have hz2 : A k j = 0 := by
        rw [← vk]
        unfold fv
        rw [hz]
        have : ((0 : Int) : Rat) = 0 := rfl
        grind
      refine ih (j + 1) M4 (by omega) (by omega) o2 f2 W2 F2 v2 ?_
      intro a b ha hb
      obtain ⟨t1, t2, t3⟩ := T2 a b ha hb
      refine ⟨t1, t2, t3.trans ?_⟩
      rw [← ccA_step hkj]
      show _ = if a = i ∧ b = j then A i j - A i k * A k j else ccA A i k j a b
      by_cases q : a = i ∧ b = j
      · rw [if_pos q, hz2]
        obtain ⟨q1, q2⟩ := q
        subst q1 q2
        show (if a = a ∧ k ≤ b ∧ b < b then _ else A a b) = _
        rw [if_neg (by omega)]
        grind
      · rw [if_neg q]
end VS
end
section
/-! The solver: a row is divided by its pivot. -/
section VS
variable {G : mG} {d s m : Nat} {M : mM} {A : Nat → Nat → Rat}
abbrev dvA (A : Nat → Nat → Rat) (k : Nat) (j : Int) : Nat → Nat → Rat := fun a b => if a = k ∧ j < (b : Int) then A k b * (A k k)⁻¹ else A a b
theorem dvA_step {A : Nat → Nat → Rat} {k j : Nat} : (fun a b => if a = k ∧ b = j then A k j * (A k k)⁻¹ else dvA A k j a b) = dvA A k ((j : Int) + (-1)) := by
  funext a b
  show (if a = k ∧ b = j then A k j * (A k k)⁻¹ else (if a = k ∧ (j : Int) < (b : Int) then A k b * (A k k)⁻¹ else A a b)) = if a = k ∧ (j : Int) + (-1) < (b : Int) then A k b * (A k k)⁻¹ else A a b
  by_cases q : a = k ∧ b = j
  · rw [if_pos q, if_pos ⟨q.1, by omega⟩, q.2]
  · rw [if_neg q]
    by_cases z : a = k ∧ (j : Int) < (b : Int)
    · rw [if_pos z, if_pos ⟨z.1, by omega⟩]
    · rw [if_neg z, if_neg (fun w => z ⟨w.1, by have : b ≠ j := fun y => q ⟨w.1, y⟩; omega⟩)]
theorem s_row {k : Nat} {Q : mM → Prop} (hm : m ≤ 40) (hk : k < m) (hO : mOk M) (hV : Vk M s) (hW : Wk M s) (hT : Tb M s m A) (hp : A k k ≠ 0) (hS : ∀ b, k ≤ b → b ≤ m → Sml (A k b * (A k k)⁻¹))
    (hQ : ∀ M', mOk M' → FI (cS s m) M M' → Wk M' s → Tb M' s m (dvA A k ((k : Int) + (-1))) → h_MS_solveRows_63 G (d + 4) s k 0 M' Q) : h_MS_solveRows_15 G (d + 4) s k m M Q := by
  have hT0 : Tb M s m (dvA A k (m : Int)) := by
    intro a b ha hb
    obtain ⟨t1, t2, t3⟩ := hT a b ha hb
    refine ⟨t1, t2, t3.trans ?_⟩
    show A a b = if a = k ∧ (m : Int) < (b : Int) then _ else A a b
    rw [if_neg (by omega)]
  suffices H : ∀ (n : Nat) (j : Int) (M2 : mM), j + 1 = k + n → j ≤ m → mOk M2 → FI (cS s m) M M2 → Wk M2 s → Tb M2 s m (dvA A k j) → h_MS_solveRows_15 G (d + 4) s k j M2 Q from
    H (m + 1 - k) m M (by omega) (by omega) hO FI.refl hW hT0
  intro n
  induction n with
  | zero =>
    intro j M2 hn hj o2 f2 W2 T2
    have ej : j = (k : Int) + (-1) := by omega
    rw [ej] at T2
    exact k_MS_solveRows_15 o2 ⟨by omega, by omega⟩ ⟨by omega, by omega⟩ ⟨fun _ => hQ M2 o2 f2 W2 T2, fun c => by omega⟩
  | succ n ih =>
    intro j0 M2 hn hj o2 f2 W2 T2
    obtain ⟨j, ej⟩ : ∃ j : Nat, j0 = j := ⟨j0.toNat, by omega⟩
    subst ej
    have hV2 := hV.fi f2
    have cj := T2 k j hk (by omega)
    have ck := T2 k k hk (by omega)
    have vj : fv M2 (cel s k j) = A k j := cj.2.2.trans (if_neg (by omega))
    have vk : fv M2 (cel s k k) = A k k := ck.2.2.trans (if_neg (by omega))
    have hnz : sn M2 (cel s k k) ≠ 0 := fun q => hp (by
      rw [← vk]
      unfold fv
      rw [q]
      have : ((0 : Int) : Rat) = 0 := rfl
      grind)
    have z1 := cj.1.2.1.1.2.2.2.2.2.2
    have z2 := cj.1.2.2.1.1.2.2.2.2.2.2
    have z3 := ck.1.2.1.1.2.2.2.2.2.2
    have z4 := ck.1.2.2.1.1.2.2.2.2.2.2
    refine k_MS_solveRows_15 o2 ⟨by omega, by omega⟩ ⟨by omega, by omega⟩ ⟨fun c => by omega, fun _ => ⟨hV2.k0, (s_MS_cell (by omega) (by omega) o2 hV2).mono (fun x M3 h3 => ?_)⟩⟩
    obtain ⟨e3, hx⟩ := h3
    subst e3 hx
    refine ⟨o2, hV2.k0, (s_MS_cell (by omega) (by omega) o2 hV2).mono (fun x M4 h4 => ?_)⟩
    obtain ⟨e4, hx⟩ := h4
    subst e4 hx
    rw [hV2.r0]
    refine ⟨o2, W2.1.1.1, (s_MU_divide1 (d := d) o2 W2.1 cj.1 ck.1 (by unfold suO cel; omega) (by unfold suO cel; omega) hnz (by omega) (by omega)).mono (fun M5 h5 => ?_)⟩
    have hv5 := fv_div cj.1 ck.1 hnz h5
    rw [vj, vk] at hv5
    have hv6 : fv M5 (s + 1 + 1) = A k j * (A k k)⁻¹ := by
      have e := Rat.mul_inv_cancel _ hp
      rw [← hv5]
      grind
    obtain ⟨t1, t2, t3, t4, t5, -⟩ := h5
    have t2' : FI (fun x => s + 2 ≤ x ∧ x ≤ s + 21) M4 M5 := t2.mono (fun x q => by omega)
    have V5 := hV2.fi t2
    have W5 : Wk M5 s := W2.out t2' t3 (fun x q => by omega)
    have T5 := T2.out t2' (fun x q => by omega)
    have cj5 := T5 k j hk (by omega)
    have hsm := sml_size t4 t5 (by rw [hv6]; exact hS j (by omega) (by omega))
    refine ⟨t1, V5.k0, (s_MS_cell (by omega) (by omega) t1 V5).mono (fun x M6 h6 => ?_)⟩
    obtain ⟨e6, hx⟩ := h6
    subst e6 hx
    rw [V5.r0, t3.1.2.1]
    refine ⟨t1, V5.k0, t3.1.1, cj5.1.1.1, (s_MF_copy t1 cj5.1.ft t4 (by unfold cel; omega) hsm.1 hsm.2).mono (fun M7 h7 => ?_)⟩
    obtain ⟨w1, w2, w3, w4, w5, w6⟩ := h7
    have hf7 := fc_copy t5 w4 w5 w6
    have w2' : FI (cR s m) M6 M7 := w2.mono (fun x q => by have q' : cel s k j ≤ x ∧ x ≤ cel s k j + 4 := q; unfold cel at q'; omega)
    have T7 := T5.put hm hk (by omega) w2 w3 hf7.1 (hf7.2.trans hv6)
    rw [dvA_step] at T7
    exact ⟨w1, ih ((j : Int) + (-1)) M7 (by omega) (by omega) w1 ((f2.trans (t2'.mono (fun x q => by omega))).trans (w2'.mono (fun x q => by omega))) (W5.out w2' (t3.far w2' (fun x q => by omega)) (fun x q => by omega)) T7⟩
end VS
end
section
/-! The solver: all other rows are cleared of a column. -/
theorem Tb.congr {M : mM} {s m : Nat} {A B : Nat → Nat → Rat} (h : Tb M s m A) (e : ∀ a b, a < m → b ≤ m → A a b = B a b) : Tb M s m B := by
  intro a b ha hb
  obtain ⟨t1, t2, t3⟩ := h a b ha hb
  exact ⟨t1, t2, t3.trans (e a b ha hb)⟩
section VS
variable {G : mG} {d s m : Nat} {M : mM} {B : Nat → Nat → Rat}
abbrev elA (B : Nat → Nat → Rat) (k i : Nat) : Nat → Nat → Rat := fun a b => if a < i ∧ a ≠ k ∧ k ≤ b then B a b - B a k * B k b else B a b
theorem s_clear {k : Nat} {Q : mM → Prop} (hm : m ≤ 40) (hk : k < m) (hO : mOk M) (hV : Vk M s) (h24 : mI M s 24 = m) (hW : Wk M s) (hT : Tb M s m B) (hB : ∀ a b, a < m → b ≤ m → B a b ≤ 1 ∧ -1 ≤ B a b) (hS : ∀ a b, a < m → a ≠ k → k ≤ b → b ≤ m → Sml (B a b - B a k * B k b))
    (hQ : ∀ M', mOk M' → FI (cS s m) M M' → Wk M' s → Tb M' s m (elA B k m) → h_MS_solveRows_2 G (d + 5) s ((k : Int) + 1) M' Q) : h_MS_solveRows_63 G (d + 5) s k 0 M Q := by
  have hT0 : Tb M s m (elA B k 0) := hT.congr (fun a b ha hb => by
    show B a b = if a < 0 ∧ a ≠ k ∧ k ≤ b then _ else B a b
    rw [if_neg (by omega)])
  suffices H : ∀ (n i : Nat) (M2 : mM), i + n = m → mOk M2 → FI (cS s m) M M2 → Wk M2 s → Tb M2 s m (elA B k i) → h_MS_solveRows_63 G (d + 5) s k i M2 Q from
    H m 0 M (by omega) hO FI.refl hW hT0
  intro n
  induction n with
  | zero =>
    intro i M2 hn o2 f2 W2 T2
    have es : mI M2 s = mI M s := f2.2.2.2.2.2.2 s (by omega)
    have ei : i = m := by omega
    subst ei
    refine k_MS_solveRows_63 o2 ⟨by omega, by omega⟩ ⟨by omega, by omega⟩ ?_
    rw [es, h24]
    exact ⟨(hV.fi f2).k0, fun _ => hQ M2 o2 f2 W2 T2, fun c => by omega⟩
  | succ n ih =>
    intro i M2 hn o2 f2 W2 T2
    have hV2 := hV.fi f2
    have es : mI M2 s = mI M s := f2.2.2.2.2.2.2 s (by omega)
    have hi : i < m := by omega
    have c1 : ∀ b, elA B k i i b = B i b := fun b => if_neg (by omega)
    have c2 : ∀ b, elA B k i k b = B k b := fun b => if_neg (fun w => w.2.1 rfl)
    refine k_MS_solveRows_63 o2 ⟨by omega, by omega⟩ ⟨by omega, by omega⟩ ?_
    rw [es, h24]
    refine ⟨hV2.k0, fun c => by omega, fun _ => ⟨fun c => ih (i + 1) M2 (by omega) o2 f2 W2 (T2.congr (fun a b ha hb => ?_)), fun c => (s_MS_cell (by omega) (by omega) o2 hV2).mono (fun x M3 h3 => ?_)⟩⟩
    · show (if a < i ∧ a ≠ k ∧ k ≤ b then B a b - B a k * B k b else B a b) = if a < i + 1 ∧ a ≠ k ∧ k ≤ b then B a b - B a k * B k b else B a b
      by_cases q : a < i ∧ a ≠ k ∧ k ≤ b
      · rw [if_pos q, if_pos ⟨by omega, q.2⟩]
      · rw [if_neg q, if_neg (by omega)]
    · obtain ⟨e3, hx⟩ := h3
      subst e3 hx
      have hik : i ≠ k := by omega
      have ck := T2 i k hi (by omega)
      refine ⟨o2, ck.1.1.1, (s_MF_isZero o2 ck.1).mono (fun y M4 h4 => ?_)⟩
      obtain ⟨e4, hy⟩ := h4
      subst e4
      have hcc : ∀ a b, a < m → b ≤ m → elA B k i a b ≤ 1 ∧ -1 ≤ elA B k i a b := fun a b ha hb => by
        show (if a < i ∧ a ≠ k ∧ k ≤ b then B a b - B a k * B k b else B a b) ≤ 1 ∧ -1 ≤ (if a < i ∧ a ≠ k ∧ k ≤ b then B a b - B a k * B k b else B a b)
        by_cases q : a < i ∧ a ≠ k ∧ k ≤ b
        · rw [if_pos q]
          obtain ⟨E, z, _, _, _, h5, h6⟩ := hS a b ha q.2.1 q.2.2 hb
          exact ⟨h5, h6⟩
        · rw [if_neg q]
          exact hB a b ha hb
      refine ⟨⟨by split at hy <;> omega, by split at hy <;> omega⟩, o2, fun q => ⟨hV2.k0, ?_⟩, fun q => ?_⟩
      · refine (s_MS_clearColumn (d := d) hm hi hk hik o2 hV2 (by rw [es]; exact h24) W2 T2 hcc (fun b h1 h2 => by rw [c1, c1, c2]; exact hS i b hi hik h1 h2)).mono (fun M5 h5 => ?_)
        obtain ⟨w1, w2, w3, w4⟩ := h5
        refine ⟨w1, ih (i + 1) M5 (by omega) w1 (f2.trans w2) w3 (w4.congr (fun a b ha hb => ?_))⟩
        show (if a = i ∧ k ≤ b ∧ b < m + 1 then elA B k i i b - elA B k i i k * elA B k i k b else elA B k i a b) = if a < i + 1 ∧ a ≠ k ∧ k ≤ b then B a b - B a k * B k b else B a b
        rw [c1, c1, c2]
        by_cases z : a = i ∧ k ≤ b ∧ b < m + 1
        · rw [if_pos z, if_pos (by omega), z.1]
        · rw [if_neg z]
          show (if a < i ∧ a ≠ k ∧ k ≤ b then B a b - B a k * B k b else B a b) = _
          by_cases y : a < i ∧ a ≠ k ∧ k ≤ b
          · rw [if_pos y, if_pos (by omega)]
          · rw [if_neg y, if_neg (by omega)]
      · have hz : B i k = 0 := by
          have hs : sn M4 (cel s i k) = 0 := by
            by_cases w : sn M4 (cel s i k) = 0
            · exact w
            · rw [if_neg w] at hy; omega
          have e := ck.2.2
          rw [c1] at e
          rw [← e]
          unfold fv
          rw [hs]
          have : ((0 : Int) : Rat) = 0 := rfl
          grind
        refine ih (i + 1) M4 (by omega) o2 f2 W2 (T2.congr (fun a b ha hb => ?_))
        show (if a < i ∧ a ≠ k ∧ k ≤ b then B a b - B a k * B k b else B a b) = if a < i + 1 ∧ a ≠ k ∧ k ≤ b then B a b - B a k * B k b else B a b
        by_cases y : a < i ∧ a ≠ k ∧ k ≤ b
        · rw [if_pos y, if_pos (by omega)]
        · rw [if_neg y]
          by_cases z : a < i + 1 ∧ a ≠ k ∧ k ≤ b
          · have : a = i := by omega
            subst this
            rw [if_pos z, hz]
            grind
          · rw [if_neg z]
end VS
end
