/-! Lehmer's steps, and the class's search for them. -/
section LEH
variable {K x y a b c d u v q : Int}
/-- common divisors are the same -/
def DE (u v u' v' : Int) : Prop := ∀ g : Int, (g ∣ u ∧ g ∣ v) ↔ (g ∣ u' ∧ g ∣ v')
theorem DE.refl : DE u v u v := fun _ => Iff.rfl
theorem DE.trans {u1 v1 u2 v2 : Int} (h : DE u v u1 v1) (k : DE u1 v1 u2 v2) : DE u v u2 v2 := fun g => (h g).trans (k g)
theorem DE.swap : DE u v v u := fun _ => And.comm
theorem DE.step (q : Int) : DE u v v (u - q * v) := fun g => by
  constructor
  · rintro ⟨h1, h2⟩
    exact ⟨h2, Int.dvd_sub h1 (Int.dvd_trans h2 (Int.dvd_mul_left q v))⟩
  · rintro ⟨h1, h2⟩
    refine ⟨?_, h1⟩
    have := Int.dvd_add h2 (Int.dvd_trans h1 (Int.dvd_mul_left q v))
    rw [show u - q * v + q * v = u by omega] at this
    exact this
/-- what the highest bits tell -/
def LB (K x y a b c d u v : Int) : Prop := (K * (x + b) ≤ u ∧ u ≤ K * (x + a) ∧ K * (y + c) ≤ v ∧ v ≤ K * (y + d)) ∨ (K * (x + a) ≤ u ∧ u ≤ K * (x + b) ∧ K * (y + d) ≤ v ∧ v ≤ K * (y + c))
theorem lb_q {x1 y1 x2 y2 : Int} (hK : 0 < K) (h1 : K * x1 ≤ u) (h2 : u ≤ K * x2) (h3 : K * y1 ≤ v) (h4 : v ≤ K * y2) (hy1 : 0 < y1) (hq0 : 0 ≤ q) (hq1 : q * y2 ≤ x1) (hq2 : x2 < (q + 1) * y1) : 0 ≤ u - q * v ∧ u - q * v < v := by
  have a1 : q * v ≤ q * (K * y2) := Int.mul_le_mul_of_nonneg_left h4 hq0
  have a2 : K * (q * y2) ≤ K * x1 := Int.mul_le_mul_of_nonneg_left hq1 (Int.le_of_lt hK)
  have a3 : K * x2 < K * ((q + 1) * y1) := Int.mul_lt_mul_of_pos_left hq2 hK
  have a4 : (q + 1) * (K * y1) ≤ (q + 1) * v := Int.mul_le_mul_of_nonneg_left h3 (by omega)
  rw [Int.mul_left_comm] at a1 a4
  rw [Int.add_mul (a := q) (b := 1) (c := v), Int.one_mul] at a4
  omega
theorem lb_new {x1 y1 : Int} (h1 : K * x1 ≤ u) (h4 : v ≤ K * y1) (hq0 : 0 ≤ q) : K * (x1 - q * y1) ≤ u - q * v := by
  have a1 : q * v ≤ q * (K * y1) := Int.mul_le_mul_of_nonneg_left h4 hq0
  rw [Int.mul_sub, Int.mul_left_comm]
  omega
theorem lb_new2 {x1 y1 : Int} (h1 : u ≤ K * x1) (h4 : K * y1 ≤ v) (hq0 : 0 ≤ q) : u - q * v ≤ K * (x1 - q * y1) := by
  have a1 : q * (K * y1) ≤ q * v := Int.mul_le_mul_of_nonneg_left h4 hq0
  rw [Int.mul_sub, Int.mul_left_comm]
  omega
/-- one step -/
theorem lb_step (hK : 0 < K) (h : LB K x y a b c d u v) (p1 : 0 ≤ x + a) (p2 : 0 ≤ x + b) (p3 : 0 < y + c) (p4 : 0 < y + d) (e1 : q = (x + a) / (y + c)) (e2 : q = (x + b) / (y + d)) : 0 ≤ q ∧ (0 ≤ u - q * v ∧ u - q * v < v) ∧ LB K y (x - q * y) c d (a - q * c) (b - q * d) v (u - q * v) ∧ 0 ≤ (x - q * y) + (a - q * c) ∧ 0 ≤ (x - q * y) + (b - q * d) := by
  have q0 : 0 ≤ q := by rw [e1]; exact Int.ediv_nonneg p1 (Int.le_of_lt p3)
  have r1 : q * (y + c) ≤ x + a := by rw [e1]; exact Int.ediv_mul_le _ (by omega)
  have r2 : x + a < (q + 1) * (y + c) := by rw [e1]; exact Int.lt_ediv_add_one_mul_self _ p3
  have r3 : q * (y + d) ≤ x + b := by rw [e2]; exact Int.ediv_mul_le _ (by omega)
  have r4 : x + b < (q + 1) * (y + d) := by rw [e2]; exact Int.lt_ediv_add_one_mul_self _ p4
  have s1 : (x - q * y) + (a - q * c) = (x + a) - q * (y + c) := by rw [Int.mul_add]; omega
  have s2 : (x - q * y) + (b - q * d) = (x + b) - q * (y + d) := by rw [Int.mul_add]; omega
  clear e1 e2
  rcases h with ⟨h1, h2, h3, h4⟩ | ⟨h1, h2, h3, h4⟩
  · refine ⟨q0, lb_q hK h1 h2 h3 h4 p3 q0 r3 r2, Or.inr ⟨h3, h4, ?_, ?_⟩, by omega, by omega⟩
    · rw [s2]; exact lb_new h1 h4 q0
    · rw [s1]; exact lb_new2 h2 h3 q0
  · refine ⟨q0, lb_q hK h1 h2 h3 h4 p4 q0 r1 r4, Or.inl ⟨h3, h4, ?_, ?_⟩, by omega, by omega⟩
    · rw [s1]; exact lb_new h1 h4 q0
    · rw [s2]; exact lb_new2 h2 h3 q0
/-- the product halves -/
theorem eu_half {r : Int} (hv : 0 ≤ v) (hvu : v ≤ u) (hr : 0 ≤ r ∧ r < v) (hq : 1 ≤ q) (e : r = u - q * v) : 2 * (v * r) ≤ u * v := by
  have a1 : v ≤ q * v := by
    have := Int.mul_le_mul_of_nonneg_right hq hv
    omega
  have a2 : 2 * r ≤ u := by omega
  have a3 : v * (2 * r) ≤ v * u := Int.mul_le_mul_of_nonneg_left a2 hv
  rw [Int.mul_left_comm, Int.mul_comm v u] at a3
  exact a3
theorem lb_hi {B : Int} (hK : 0 < K) (h : LB K x y a b c d u v) (hu : u < K * B) (hv : v < K * B) (ba : -1073741824 < a ∧ a < 1073741824) (bb : -1073741824 < b ∧ b < 1073741824) (bc : -1073741824 < c ∧ c < 1073741824) (bd : -1073741824 < d ∧ d < 1073741824) : x < B + 1073741824 ∧ y < B + 1073741824 := by
  rcases h with ⟨h1, h2, h3, h4⟩ | ⟨h1, h2, h3, h4⟩
  · have a1 : x + b < B := Int.lt_of_mul_lt_mul_left (Int.lt_of_le_of_lt h1 hu) (Int.le_of_lt hK)
    have a2 : y + c < B := Int.lt_of_mul_lt_mul_left (Int.lt_of_le_of_lt h3 hv) (Int.le_of_lt hK)
    omega
  · have a1 : x + a < B := Int.lt_of_mul_lt_mul_left (Int.lt_of_le_of_lt h1 hu) (Int.le_of_lt hK)
    have a2 : y + d < B := Int.lt_of_mul_lt_mul_left (Int.lt_of_le_of_lt h3 hv) (Int.le_of_lt hK)
    omega
end LEH
section NAQ
variable {G : mG} {e z n m w : Nat} {M M' M1 M2 M3 : mM} {K B u0 v0 x y a b c d q : Int}
/-- only the longs of one cell differ -/
def FLo (c : Nat) (M M' : mM) : Prop := mK M' = mK M ∧ mN M' = mN M ∧ mR M' = mR M ∧ mI M' = mI M ∧ mZ M' = mZ M ∧ mS M' = mS M ∧ ∀ x, x ≠ c → mL M' x = mL M x
theorem FLo.refl {c : Nat} : FLo c M M := ⟨rfl, rfl, rfl, rfl, rfl, rfl, fun _ _ => rfl⟩
theorem FLo.ul {c j : Nat} {v : Int} (e : M' = mUL M c j v) : FLo c M M' := by
  subst e
  refine ⟨rfl, rfl, rfl, rfl, rfl, rfl, fun x hx => ?_⟩
  funext k
  rw [mL_UL, if_neg (fun u => hx u.1)]
theorem FLo.trans {c : Nat} (h : FLo c M M1) (k : FLo c M1 M2) : FLo c M M2 := by
  obtain ⟨h1, h2, h3, h4, h5, h6, h7⟩ := h
  obtain ⟨k1, k2, k3, k4, k5, k6, k7⟩ := k
  exact ⟨k1.trans h1, k2.trans h2, k3.trans h3, k4.trans h4, k5.trans h5, k6.trans h6, fun x hx => (k7 x hx).trans (h7 x hx)⟩
theorem mL_ul {c j : Nat} {v : Int} (b i : Nat) (e : M' = mUL M c j v) : mL M' b i = if b = c ∧ i = j then v else mL M b i := by rw [e, mL_UL]
/-- on the way -/
def FS (K u0 v0 x y a b c d : Int) : Prop := (fac a ∧ fac b ∧ fac c ∧ fac d) ∧ LB K x y a b c d (a * u0 + b * v0) (c * u0 + d * v0) ∧ (0 ≤ x + a ∧ 0 ≤ x + b ∧ 0 ≤ y + c ∧ 0 ≤ y + d) ∧ (0 ≤ c * u0 + d * v0 ∧ c * u0 + d * v0 ≤ a * u0 + b * v0 ∧ a * u0 + b * v0 ≤ u0) ∧ DE u0 v0 (a * u0 + b * v0) (c * u0 + d * v0) ∧ ((a * u0 + b * v0) * (c * u0 + d * v0) ≤ u0 * v0 ∧ (b = 0 ∨ 2 * ((a * u0 + b * v0) * (c * u0 + d * v0)) ≤ u0 * v0))
theorem fs_al {u0 v0 a b c d q : Int} : (a - q * c) * u0 + (b - q * d) * v0 = (a * u0 + b * v0) - q * (c * u0 + d * v0) := by grind
theorem FS.step (hK : 0 < K) (h : FS K u0 v0 x y a b c d) (v0p : 0 ≤ v0) (p3 : 0 < y + c) (p4 : 0 < y + d) (e1 : q = (x + a) / (y + c)) (e2 : q = (x + b) / (y + d)) (f1 : fac (a - q * c)) (f2 : fac (b - q * d)) : FS K u0 v0 y (x - q * y) c d (a - q * c) (b - q * d) := by
  obtain ⟨⟨ba, bb, bc, bd⟩, lb, ⟨p1, p2, -, -⟩, ⟨o1, o2, o3⟩, de, pr⟩ := h
  obtain ⟨q0, ⟨r1, r2⟩, lb', s1, s2⟩ := lb_step hK lb p1 p2 p3 p4 e1 e2
  unfold FS
  rw [fs_al]
  generalize a * u0 + b * v0 = u at *
  generalize c * u0 + d * v0 = v at *
  have q1 : 1 ≤ q := by
    refine Classical.byContradiction (fun w => ?_)
    have : q = 0 := by omega
    rw [this, Int.zero_mul] at r2
    omega
  have hf := eu_half (q := q) o1 o2 ⟨r1, r2⟩ q1 rfl
  have vr0 := Int.mul_nonneg o1 r1
  exact ⟨⟨bc, bd, f1, f2⟩, lb', ⟨by omega, by omega, s1, s2⟩, ⟨r1, by omega, by omega⟩, de.trans (DE.step q), by omega, Or.inr (by omega)⟩
theorem FS.init {x0 y0 : Int} (h1 : K * x0 ≤ u0) (h2 : u0 < K * (x0 + 1)) (h3 : K * y0 ≤ v0) (h4 : v0 < K * (y0 + 1)) (hx : 0 ≤ x0) (hy : 0 ≤ y0) (h0 : 0 ≤ v0) (h : v0 ≤ u0) : FS K u0 v0 x0 y0 1 0 0 1 := by
  unfold FS
  rw [show (1 : Int) * u0 + 0 * v0 = u0 by omega, show (0 : Int) * u0 + 1 * v0 = v0 by omega]
  exact ⟨⟨⟨by decide, by decide⟩, ⟨by decide, by decide⟩, ⟨by decide, by decide⟩, ⟨by decide, by decide⟩⟩, Or.inl ⟨by rw [Int.add_zero]; exact h1, Int.le_of_lt h2, by rw [Int.add_zero]; exact h3, Int.le_of_lt h4⟩, ⟨by omega, by omega, by omega, by omega⟩, ⟨h0, h, Int.le_refl _⟩, DE.refl, Int.le_refl _, Or.inl rfl⟩
/-- what the search leaves behind -/
def ffQ (M : mM) (f : Nat) (u0 v0 : Int) (x : Int) (M' : mM) : Prop := mOk M' ∧ FLo f M M' ∧ ∃ a b c d, (mL M' f 0 = a ∧ mL M' f 1 = b ∧ mL M' f 2 = c ∧ mL M' f 3 = d) ∧ (fac a ∧ fac b ∧ fac c ∧ fac d) ∧ (0 ≤ c * u0 + d * v0 ∧ c * u0 + d * v0 ≤ a * u0 + b * v0 ∧ a * u0 + b * v0 ≤ u0) ∧ DE u0 v0 (a * u0 + b * v0) (c * u0 + d * v0) ∧ (x = 0 ∨ 2 * ((a * u0 + b * v0) * (c * u0 + d * v0)) ≤ u0 * v0) ∧ (x = 0 ∨ x = 1)
theorem fac64 {x : Int} (h : fac x) : i64 x := by unfold fac at h; exact ⟨by omega, by omega⟩
theorem ff_end {f : Nat} (hO : mOk M) (hk : mK M z = 9) (hf : mR M z 6 = f) (kf : mK M f = 33) (nf : mN M f = 4) (h : FS K u0 v0 x y a b c d) : mK M z = 9 ∧ mK M (mR M z 6) = 33 ∧ ((0 : Int) ≤ 0 ∧ 0 < (mN M (mR M z 6) : Int)) ∧ ∀ M17, M17 = mUL M (mR M z 6) 0 a → mK M17 (mR M17 z 6) = 33 ∧ ((0 : Int) ≤ 1 ∧ 1 < (mN M17 (mR M17 z 6) : Int)) ∧ ∀ M21, M21 = mUL M17 (mR M17 z 6) 1 b → mK M21 (mR M21 z 6) = 33 ∧ ((0 : Int) ≤ 2 ∧ 2 < (mN M21 (mR M21 z 6) : Int)) ∧ ∀ M25, M25 = mUL M21 (mR M21 z 6) 2 c → mK M25 (mR M25 z 6) = 33 ∧ ((0 : Int) ≤ 3 ∧ 3 < (mN M25 (mR M25 z 6) : Int)) ∧ ∀ M29, M29 = mUL M25 (mR M25 z 6) 3 d → ∀ v32 : Int, v32 = (if (cmpL b 0 = 0) then 0 else 1) → ffQ M f u0 v0 v32 M29 := by
  obtain ⟨⟨ba, bb, bc, bd⟩, lb, -, or, de, -, pr⟩ := h
  rw [hf, nf]
  refine ⟨hk, kf, ⟨by decide, by decide⟩, fun M17 e17 => ?_⟩
  have f17 := FLo.ul e17
  rw [f17.1, f17.2.1, f17.2.2.1, hf, nf]
  refine ⟨kf, ⟨by decide, by decide⟩, fun M21 e21 => ?_⟩
  have f21 := f17.trans (FLo.ul e21)
  rw [f21.1, f21.2.1, f21.2.2.1, hf, nf]
  refine ⟨kf, ⟨by decide, by decide⟩, fun M25 e25 => ?_⟩
  have f25 := f21.trans (FLo.ul e25)
  rw [f25.1, f25.2.1, f25.2.2.1, hf, nf]
  refine ⟨kf, ⟨by decide, by decide⟩, fun M29 e29 v32 e32 => ?_⟩
  have o29 : mOk M29 := by rw [e29]; exact mOk_UL (by rw [e25]; exact mOk_UL (by rw [e21]; exact mOk_UL (by rw [e17]; exact mOk_UL hO (fac64 ba)) (fac64 bb)) (fac64 bc)) (fac64 bd)
  refine ⟨o29, f25.trans (FLo.ul e29), a, b, c, d, ⟨?_, ?_, ?_, ?_⟩, ⟨ba, bb, bc, bd⟩, or, de, ?_, by rw [e32]; split <;> omega⟩
  · rw [mL_ul f 0 e29, if_neg (fun u => absurd u.2 (by decide)), mL_ul f 0 e25, if_neg (fun u => absurd u.2 (by decide)), mL_ul f 0 e21, if_neg (fun u => absurd u.2 (by decide)), mL_ul f 0 e17, if_pos ⟨rfl, rfl⟩]
  · rw [mL_ul f 1 e29, if_neg (fun u => absurd u.2 (by decide)), mL_ul f 1 e25, if_neg (fun u => absurd u.2 (by decide)), mL_ul f 1 e21, if_pos ⟨rfl, rfl⟩]
  · rw [mL_ul f 2 e29, if_neg (fun u => absurd u.2 (by decide)), mL_ul f 2 e25, if_pos ⟨rfl, rfl⟩]
  · rw [mL_ul f 3 e29, if_pos ⟨rfl, rfl⟩]
  · rcases pr with pr | pr
    · rw [pr, if_pos (j_c0.2 rfl)] at e32
      exact Or.inl e32
    · exact Or.inr pr
theorem ab_i {x : Int} : (if 0 < x then x else -x) ≤ 1073741823 ↔ (-1073741824 < x ∧ x < 1073741824) := by
  split <;> constructor <;> intro h <;> omega
theorem ab_b {x : Int} (h : -1152921505680588800 ≤ x ∧ x ≤ 1152921505680588800) : i64 x ∧ i64 (if 0 < x then x else -x) := by
  unfold i64
  split <;> omega
theorem qc_b {q a c : Int} (hq : 0 ≤ q ∧ q ≤ 1073741823) (ha : fac a) (hc : fac c) : -1152921505680588800 ≤ a - q * c ∧ a - q * c ≤ 1152921505680588800 := by
  unfold fac at ha hc
  have h1 : q * c ≤ q * 1073741823 := Int.mul_le_mul_of_nonneg_left (by omega) hq.1
  have h2 : q * (-1073741823) ≤ q * c := Int.mul_le_mul_of_nonneg_left (by omega) hq.1
  omega
theorem td_b {x y : Int} (hx : 0 ≤ x) (hy : 0 < y) (h : i64 x) : Int.tdiv x y = x / y ∧ i64 (x / y) := by
  refine ⟨Int.tdiv_eq_ediv_of_nonneg hx, ?_⟩
  have h1 := Int.ediv_nonneg hx (Int.le_of_lt hy)
  have h2 := Int.ediv_le_self y hx
  unfold i64 at h ⊢
  omega
theorem j_ceq {x z : Int} : cmpL x z = 0 ↔ x = z := by
  unfold cmpL; split
  · constructor <;> intro h <;> omega
  · split <;> constructor <;> intro h <;> first | omega | contradiction
theorem j_cgt {x z : Int} : 0 < cmpL x z ↔ z < x := by
  unfold cmpL; split
  · constructor <;> intro h <;> omega
  · split <;> constructor <;> intro h <;> omega
theorem s_ff21 {f e : Nat} (hK : 0 < K) (hO : mOk M) (hk : mK M z = 9) (hf : mR M z 6 = f) (kf : mK M f = 33) (nf : mN M f = 4) (hu : u0 < K * 1152921504606846976) (v0p : 0 ≤ v0) : ∀ (t i : Nat) (x y a b c d : Int), 100 ≤ i + t → i ≤ 100 → FS K u0 v0 x y a b c d → h_Sc_findFactors_21 G e z x y a b c d i M (ffQ M f u0 v0) := by
  intro t
  induction t with
  | zero =>
    intro i x y a b c d h1 h2 S
    obtain ⟨⟨ba, bb, bc, bd⟩, lb, ⟨p1, p2, p3, p4⟩, ⟨o1, o2, o3⟩, -⟩ := id S
    obtain ⟨x1, y1⟩ := lb_hi (B := 1152921504606846976) hK lb (by omega) (by omega) ba bb bc bd
    have ba' := id ba
    have bc' := id bc
    unfold fac at ba' bc'
    exact k_Sc_findFactors_21 hO ⟨by omega, by omega⟩ ⟨by omega, by omega⟩ (fac64 ba) (fac64 bb) (fac64 bc) (fac64 bd) ⟨by omega, by omega⟩ ⟨fun u => absurd (by omega) u, fun _ => ff_end hO hk hf kf nf S, fun u => absurd (Or.inl (by omega)) u⟩
  | succ t ih =>
    intro i x y a b c d h1 h2 S
    by_cases ei : i = 100
    · exact ih i x y a b c d (by omega) h2 S
    obtain ⟨⟨ba, bb, bc, bd⟩, lb, ⟨p1, p2, p3, p4⟩, ⟨o1, o2, o3⟩, -⟩ := id S
    obtain ⟨x1, y1⟩ := lb_hi (B := 1152921504606846976) hK lb (by omega) (by omega) ba bb bc bd
    have ba' := id ba
    have bb' := id bb
    have bc' := id bc
    have bd' := id bd
    unfold fac at ba' bb' bc' bd'
    refine k_Sc_findFactors_21 hO ⟨by omega, by omega⟩ ⟨by omega, by omega⟩ (fac64 ba) (fac64 bb) (fac64 bc) (fac64 bd) ⟨by omega, by omega⟩ ⟨fun _ => ⟨⟨by omega, by omega⟩, fun _ => ⟨by omega, by omega⟩⟩, fun _ => ff_end hO hk hf kf nf S, fun u => ?_⟩
    have c0 : y + c ≠ 0 := fun w => u (Or.inr (Or.inl (j_c0.2 w)))
    have d0 : y + d ≠ 0 := fun w => u (Or.inr (Or.inr (j_c0.2 w)))
    obtain ⟨t1, t2⟩ := td_b (x := x + a) (y := y + c) p1 (by omega) ⟨by omega, by omega⟩
    obtain ⟨t3, t4⟩ := td_b (x := x + b) (y := y + d) p2 (by omega) ⟨by omega, by omega⟩
    rw [t1, t3]
    generalize eq : (x + a) / (y + c) = q at *
    refine ⟨⟨by omega, by omega⟩, ⟨by omega, by omega⟩, c0, ⟨by omega, by omega⟩, ⟨by omega, by omega⟩, d0, t2, t4, fun w1 => ⟨fun w2 => ?_, fun _ => ff_end hO hk hf kf nf S⟩, fun _ => ff_end hO hk hf kf nf S⟩
    have w1' := j_ceq.1 w1
    have w2' := j_cle.1 w2
    have q0 : 0 ≤ q := by rw [← eq]; exact Int.ediv_nonneg p1 (by omega)
    obtain ⟨m1, m2⟩ := ab_b (qc_b ⟨q0, w2'⟩ ba bc)
    obtain ⟨m3, m4⟩ := ab_b (qc_b ⟨q0, w2'⟩ bb bd)
    refine ⟨m1, m2, fun _ => ff_end hO hk hf kf nf S, fun w3 => ⟨m3, m4, fun w4 => ?_, fun _ => ff_end hO hk hf kf nf S⟩⟩
    have f1 : fac (a - q * c) := ab_i.1 (Int.not_lt.1 (fun u => w3 (j_cgt.2 u)))
    have f2 : fac (b - q * d) := ab_i.1 (j_cle.1 w4)
    rw [show ((i : Int) + 1) = ((i + 1 : Nat) : Int) by omega]
    exact ih (i + 1) _ _ _ _ _ _ (by omega) (by omega) (S.step hK v0p (by omega) (by omega) eq.symm w1' f1 f2)
theorem s_Sc_findFactors {f e : Nat} (hK : 0 < K) (hO : mOk M) (hk : mK M z = 9) (hf : mR M z 6 = f) (kf : mK M f = 33) (nf : mN M f = 4) (hu : u0 < K * 1152921504606846976) (h0 : 0 ≤ v0) (h : v0 ≤ u0) : Ci G y_Sc_findFactors (e + 1) [vr z, vl (u0 / K), vl (v0 / K)] M (ffQ M f u0 v0) := by
  have a1 := Int.mul_ediv_self_le (x := u0) (k := K) (by omega)
  have a2 := Int.lt_mul_ediv_self_add (x := u0) (k := K) hK
  have a3 := Int.mul_ediv_self_le (x := v0) (k := K) (by omega)
  have a4 := Int.lt_mul_ediv_self_add (x := v0) (k := K) hK
  have b1 := Int.ediv_nonneg (show 0 ≤ u0 by omega) (Int.le_of_lt hK)
  have b2 := Int.ediv_nonneg h0 (Int.le_of_lt hK)
  have b3 : u0 / K < 1152921504606846976 := Int.ediv_lt_of_lt_mul hK (by rw [Int.mul_comm]; exact hu)
  have b4 : v0 / K < 1152921504606846976 := Int.ediv_lt_of_lt_mul hK (by rw [Int.mul_comm]; omega)
  refine k_Sc_findFactors hO ⟨by omega, by omega⟩ ⟨by omega, by omega⟩ ?_
  exact s_ff21 hK hO hk hf kf nf hu h0 100 0 _ _ 1 0 0 1 (by omega) (by omega) (FS.init a1 (by rw [Int.mul_add, Int.mul_one]; exact a2) a3 (by rw [Int.mul_add, Int.mul_one]; exact a4) b1 b2 h0 h)
end NAQ
