/-! Limbs of thirty bits: longs' bits, values, and Knuth's guess. -/
theorem j_and (x : Int) : andL x 1073741823 = x % 1073741824 := by
  unfold andL
  show (BitVec.ofInt 64 x &&& 1073741823#64).toInt = _
  have h0 : (BitVec.ofInt 64 x &&& 1073741823#64).toNat = (BitVec.ofInt 64 x).toNat % 1073741824 := by
    rw [BitVec.toNat_and]
    exact Nat.and_two_pow_sub_one_eq_mod _ 30
  have h1 : (BitVec.ofInt 64 x).toNat = (x % 18446744073709551616).toNat := by
    rw [BitVec.toNat_ofInt]; rfl
  rw [BitVec.toInt_eq_toNat_cond, h0, h1]
  have h3 : ((x % 18446744073709551616).toNat : Int) = x % 18446744073709551616 := Int.toNat_of_nonneg (Int.emod_nonneg _ (by decide))
  split <;> omega
theorem j_shr {x : Int} (h : i64 x) : shrL x 30 = x / 1073741824 := by
  unfold shrL
  show (BitVec.sshiftRight (BitVec.ofInt 64 x) _).toInt = _
  rw [BitVec.toInt_sshiftRight]
  have := i64_toInt h
  have e : (BitVec.ofInt 64 x).toInt = x := this
  rw [e]
  show x >>> 30 = _
  rw [Int.shiftRight_eq_div_pow]
  rfl
theorem j_ushr {x : Int} (h0 : 0 ≤ x) (h : x < 9223372036854775808) : ushrL x 30 = x / 1073741824 := by
  unfold ushrL
  show (BitVec.ushiftRight (BitVec.ofInt 64 x) 30).toInt = _
  have h1 : (BitVec.ofInt 64 x).toNat = x.toNat := by
    rw [BitVec.toNat_ofInt]
    show (x % 18446744073709551616).toNat = _
    rw [Int.emod_eq_of_lt h0 (by omega)]
  have h2 : (BitVec.ushiftRight (BitVec.ofInt 64 x) 30).toNat = x.toNat / 1073741824 := by
    show ((BitVec.ofInt 64 x) >>> 30).toNat = _
    rw [BitVec.toNat_ushiftRight, h1, Nat.shiftRight_eq_div_pow]
  rw [BitVec.toInt_eq_toNat_cond, h2]
  have h3 : ((x.toNat : Nat) : Int) = x := Int.toNat_of_nonneg h0
  split <;> omega
theorem j_shl {x : Int} (h : -8589934592 ≤ x ∧ x < 8589934592) : shlL x 30 = x * 1073741824 := by
  unfold shlL
  show ((BitVec.ofInt 64 x) <<< 30).toInt = _
  have e : (BitVec.ofInt 64 x) <<< 30 = BitVec.ofInt 64 (x * 1073741824) := by
    apply BitVec.eq_of_toNat_eq
    rw [BitVec.toNat_shiftLeft, BitVec.toNat_ofInt, BitVec.toNat_ofInt, Nat.shiftLeft_eq]
    show (x % 18446744073709551616).toNat * 1073741824 % 18446744073709551616 = ((x * 1073741824) % 18446744073709551616).toNat
    omega
  rw [e]
  exact i64_toInt (x := x * 1073741824) (by unfold i64; omega)
theorem j_c0 {x : Int} : cmpL x 0 = 0 ↔ x = 0 := by
  unfold cmpL; split
  · constructor <;> intro h <;> omega
  · split <;> constructor <;> intro h <;> first | omega | contradiction
theorem j_cn {x : Int} : cmpL x 0 < 0 ↔ x < 0 := by
  unfold cmpL; split
  · constructor <;> intro h <;> omega
  · split <;> constructor <;> intro h <;> omega
theorem j_cle {x z : Int} : cmpL x z ≤ 0 ↔ x ≤ z := by
  unfold cmpL; split
  · constructor <;> intro h <;> omega
  · split <;> constructor <;> intro h <;> omega
/-- powers of two as shifts of 1 -/
theorem j_sh1 : ∀ k : Nat, k ≤ 30 → shlI 1 (k : Int) = 2 ^ k := by
  have : ∀ k : Nat, k ≤ 30 → shlI 1 (k : Int) = ((2 ^ k : Nat) : Int) := by decide
  intro k hk
  rw [this k hk]
  norm_cast
section KNU
variable {P U V two u2 Ul v1 v2 Vl g : Int}
theorem kn_le {a b c : Int} (h : a ≤ b) (hc : 0 ≤ c) : a * c ≤ b * c := Int.mul_le_mul_of_nonneg_right h hc
/-- the guess is not too small -/
theorem kn_up (hP : 0 < P) (eU : U = (two * 1073741824 + u2) * P + Ul) (eV : V = (v1 * 1073741824 + v2) * P + Vl) (hl : Ul < P) (h2 : u2 < 1073741824) (k2 : 0 ≤ v2) (kl : 0 ≤ Vl) (hUV : U < V * 1073741824) (hg : 0 ≤ g) (h : g = 1073741823 ∨ two < (g + 1) * v1) : U < (g + 1) * V := by
  rcases h with h | h
  · rw [h]; omega
  · have a1 : (two + 1) * (1073741824 * P) ≤ ((g + 1) * v1) * (1073741824 * P) := kn_le (by omega) (by omega)
    have a2 : (u2 + 1) * P ≤ 1073741824 * P := kn_le (by omega) (by omega)
    have a3 : 0 ≤ (g + 1) * v2 * P := Int.mul_nonneg (Int.mul_nonneg (by omega) k2) (by omega)
    have a4 : 0 ≤ (g + 1) * Vl := Int.mul_nonneg (by omega) kl
    rw [eU, eV]
    clear eU eV hUV k2 kl h h2 hg
    grind
/-- and at most two too large -/
theorem kn_dn (hP : 0 < P) (eU : U = (two * 1073741824 + u2) * P + Ul) (eV : V = (v1 * 1073741824 + v2) * P + Vl) (hl : 0 ≤ Ul) (h2 : 0 ≤ u2) (k2 : 0 ≤ v2 ∧ v2 < 1073741824) (kl : 0 ≤ Vl ∧ Vl < P) (hv : 1073741824 ≤ 2 * v1) (hg : 0 ≤ g ∧ g < 1073741824) (h : g * v1 ≤ two) : (g - 2) * V ≤ U := by
  have a1 : (g * v1) * (1073741824 * P) ≤ two * (1073741824 * P) := kn_le h (by omega)
  have a2 : (v2 + 1) * P ≤ 1073741824 * P := kn_le (by omega) (by omega)
  have a3 : g * (v2 * P + Vl) ≤ g * (1073741824 * P) := Int.mul_le_mul_of_nonneg_left (by rw [Int.add_mul] at a2; omega) hg.1
  have a4 : g * (1073741824 * P) ≤ (2 * v1) * (1073741824 * P) := kn_le (by omega) (by omega)
  have a5 : 0 ≤ u2 * P := Int.mul_nonneg h2 (by omega)
  have a6 : 0 ≤ v2 * P := Int.mul_nonneg k2.1 (by omega)
  obtain ⟨k21, k22⟩ := k2
  obtain ⟨kl1, kl2⟩ := kl
  rw [eU, eV]
  clear eU eV h hg hv h2 a2 k21 k22
  grind
/-- a guess that the third limb tells to be too large -/
theorem kn_dec (hP : 0 < P) (eU : U = (two * 1073741824 + u2) * P + Ul) (eV : V = (v1 * 1073741824 + v2) * P + Vl) (hl : Ul < P) (kl : 0 ≤ Vl) (hg : 0 ≤ g) (h : (two - g * v1) * 1073741824 + u2 < g * v2) : U < (g - 1 + 1) * V := by
  have a1 : ((two - g * v1) * 1073741824 + u2 + 1) * P ≤ (g * v2) * P := kn_le (by omega) (by omega)
  have a4 : 0 ≤ g * Vl := Int.mul_nonneg hg kl
  rw [eU, eV]
  clear eU eV h hg
  grind
/-- a guess that the third limb lets pass is at most one too large -/
theorem kn_one (hP : 0 < P) (eU : U = (two * 1073741824 + u2) * P + Ul) (eV : V = (v1 * 1073741824 + v2) * P + Vl) (hl : 0 ≤ Ul) (k2 : 0 ≤ v2) (kl : 0 ≤ Vl ∧ Vl < P) (hv : 1 ≤ v1) (hg : 0 ≤ g ∧ g < 1073741824) (h : g * v2 ≤ (two - g * v1) * 1073741824 + u2) : (g - 1) * V ≤ U := by
  have a1 : (g * v2) * P ≤ ((two - g * v1) * 1073741824 + u2) * P := kn_le (by omega) (by omega)
  have a3 : g * Vl ≤ g * P := Int.mul_le_mul_of_nonneg_left (by omega) hg.1
  have a4 : g * P ≤ 1073741824 * P := kn_le (by omega) (by omega)
  have a5 : 1 * (1073741824 * P) ≤ v1 * (1073741824 * P) := kn_le hv (by omega)
  have a6 : 0 ≤ v2 * P := Int.mul_nonneg k2 (by omega)
  obtain ⟨kl1, kl2⟩ := kl
  rw [eU, eV]
  clear eU eV h hg hv k2
  grind
/-- what is left by the guess -/
theorem kn_rest (hP : 0 < P) (eU : U = (two * 1073741824 + u2) * P + Ul) (eV : V = (v1 * 1073741824 + v2) * P + Vl) (hl : 0 ≤ Ul) (h2 : 0 ≤ u2) (k2 : v2 < 1073741824) (kl : Vl < P) (hv : v1 < 1073741824) (hUV : U < V * 1073741824) (h1 : g * v1 ≤ two) (h : g = 1073741823 ∨ two < (g + 1) * v1) : 0 ≤ two - g * v1 ∧ two - g * v1 < 2147483648 := by
  refine ⟨by omega, ?_⟩
  rcases h with h | h
  · have a2 : (v2 + 1) * P ≤ 1073741824 * P := kn_le (by omega) (by omega)
    have a5 : 0 ≤ u2 * P := Int.mul_nonneg h2 (by omega)
    have a6 : two * (1073741824 * P) < ((v1 + 1) * 1073741824) * (1073741824 * P) := by
      clear h h1
      grind
    have a7 : two < (v1 + 1) * 1073741824 := Int.lt_of_mul_lt_mul_right a6 (by omega)
    rw [h]
    omega
  · rw [Int.add_mul, Int.one_mul] at h
    omega
/-- the true quotient -/
theorem kn_q {R : Int} (h1 : U < (g + 1) * V) (h0 : (g - 1) * V ≤ U) (hR : U - g * V = R) : (0 ≤ R → R < V) ∧ (R < 0 → 0 ≤ R + V) := by
  rw [Int.add_mul, Int.one_mul] at h1
  rw [Int.sub_mul, Int.one_mul] at h0
  omega
end KNU
theorem p30 (k : Nat) : (2 : Int) ^ (30 * (k + 1)) = 2 ^ (30 * k) * 1073741824 := by
  rw [show 30 * (k + 1) = 30 * k + 30 by omega, Int.pow_add]
  rfl
theorem p30p (k : Nat) : (0 : Int) < 2 ^ (30 * k) := Int.pow_pos (by decide)
theorem p30a (m k : Nat) : (2 : Int) ^ (30 * (m + k)) = 2 ^ (30 * m) * 2 ^ (30 * k) := by
  rw [show 30 * (m + k) = 30 * m + 30 * k by omega, Int.pow_add]
theorem p30m {m k : Nat} (h : m ≤ k) : (2 : Int) ^ (30 * m) ≤ 2 ^ (30 * k) := by
  obtain ⟨t, rfl⟩ := Nat.le.dest h
  rw [p30a]
  have h1 : (1 : Int) ≤ 2 ^ (30 * t) := p30p t
  have h2 := Int.mul_le_mul_of_nonneg_left h1 (Int.le_of_lt (p30p m))
  omega
theorem dn_s (f : Nat → Int) (k : Nat) : dn f (k + 1) = dn f k + f k * 2 ^ (30 * k) := rfl
/-- limbs -/
def lms (f : Nat → Int) (n : Nat) : Prop := ∀ j, j < n → 0 ≤ f j ∧ f j < 1073741824
theorem dn_nn {f : Nat → Int} : ∀ {n : Nat}, lms f n → 0 ≤ dn f n
  | 0, _ => Int.le_refl _
  | n + 1, h => by
    rw [dn_s]
    have h1 := dn_nn (n := n) (fun j hj => h j (by omega))
    have h2 := Int.mul_nonneg (h n (by omega)).1 (Int.le_of_lt (p30p n))
    omega
theorem dn_lt {f : Nat → Int} : ∀ {n : Nat}, lms f n → dn f n < 2 ^ (30 * n)
  | 0, _ => (by decide : (0 : Int) < 2 ^ (30 * 0))
  | n + 1, h => by
    rw [dn_s, p30]
    have h1 := dn_lt (n := n) (fun j hj => h j (by omega))
    have h2 := Int.mul_le_mul_of_nonneg_right (c := 2 ^ (30 * n)) (show f n ≤ 1073741823 by have := h n (by omega); omega) (Int.le_of_lt (p30p n))
    omega
theorem dn_ge {f : Nat → Int} {n : Nat} (h : lms f (n + 1)) (h0 : f n ≠ 0) : 2 ^ (30 * n) ≤ dn f (n + 1) := by
  rw [dn_s]
  have h1 := dn_nn (n := n) (fun j hj => h j (by omega))
  have h2 := Int.mul_le_mul_of_nonneg_right (c := 2 ^ (30 * n)) (show 1 ≤ f n by have := h n (by omega); omega) (Int.le_of_lt (p30p n))
  omega
/-- a number of s limbs without its highest is less -/
theorem dn_top {f : Nat → Int} {n : Nat} (h : lms f (n + 1)) (h0 : 2 ^ (30 * n) ≤ dn f (n + 1)) : f n ≠ 0 := by
  intro z
  rw [dn_s, z] at h0
  have h1 := dn_lt (n := n) (fun j hj => h j (by omega))
  omega
theorem dn_up {f g : Nat → Int} {i : Nat} : ∀ {n : Nat}, i < n → (∀ j, j < n → j ≠ i → g j = f j) → dn g n = dn f n + (g i - f i) * 2 ^ (30 * i)
  | 0, hi, _ => absurd hi (by omega)
  | n + 1, hi, h => by
    rw [dn_s, dn_s]
    by_cases z : i = n
    · subst z
      rw [dn_cg i (fun j hj => h j (by omega) (by omega)), Int.sub_mul]
      omega
    · rw [dn_up (n := n) (by omega) (fun j hj hj' => h j (by omega) hj'), h n (by omega) (fun u => z u.symm)]
      omega
theorem dn_z {f : Nat → Int} {s : Nat} : ∀ {n : Nat}, s ≤ n → (∀ j, s ≤ j → j < n → f j = 0) → dn f n = dn f s
  | 0, hs, _ => by rw [show s = 0 by omega]
  | n + 1, hs, h => by
    by_cases z : s = n + 1
    · rw [z]
    · rw [dn_s, h n (by omega) (by omega), dn_z (n := n) (by omega) (fun j h1 h2 => h j h1 (by omega))]
      omega
theorem dn_sp (f : Nat → Int) (m : Nat) : ∀ n, dn f (m + n) = dn f m + 2 ^ (30 * m) * dn (fun j => f (m + j)) n
  | 0 => by show dn f m = dn f m + 2 ^ (30 * m) * 0; omega
  | n + 1 => by
    show dn f (m + n) + f (m + n) * 2 ^ (30 * (m + n)) = dn f m + 2 ^ (30 * m) * (dn (fun j => f (m + j)) n + f (m + n) * 2 ^ (30 * n))
    rw [dn_sp f m n, p30a, Int.mul_add, Int.add_assoc, Int.mul_left_comm]
/-- the lowest limb apart -/
theorem dn_lo (f : Nat → Int) (n : Nat) : dn f (n + 1) = f 0 + 1073741824 * dn (fun j => f (1 + j)) n := by
  rw [show n + 1 = 1 + n by omega, dn_sp]
  show 0 + f 0 * 2 ^ (30 * 0) + _ = _
  rw [show (2 : Int) ^ (30 * 0) = 1 by decide, show (2 : Int) ^ (30 * 1) = 1073741824 by decide]
  omega
/-- sizes by values -/
theorem dn_sz {f : Nat → Int} {s n : Nat} (h : lms f s) (h0 : 0 < s → f (s - 1) ≠ 0) (hv : dn f s < 2 ^ (30 * n)) : s ≤ n := by
  refine Classical.byContradiction (fun u => ?_)
  obtain ⟨t, rfl⟩ : ∃ t, s = t + 1 := ⟨s - 1, by omega⟩
  have h1 := dn_ge h (h0 (by omega))
  have h2 := p30m (m := n) (k := t) (by omega)
  omega
/-- one step of a carry -/
theorem c_st {D D' l x : Int} {i : Nat} (e : D' = D + (x % 1073741824 - l) * 2 ^ (30 * i)) : D' + x / 1073741824 * 2 ^ (30 * (i + 1)) = D + (x - l) * 2 ^ (30 * i) := by
  rw [e, p30]
  have h := Int.emod_add_mul_ediv x 1073741824
  generalize (2 : Int) ^ (30 * i) = p at *
  have h2 : x * p = (x % 1073741824) * p + (x / 1073741824) * (p * 1073741824) := by
    conv => lhs; rw [← h]
    rw [Int.add_mul, Int.mul_comm 1073741824, Int.mul_assoc, Int.mul_comm 1073741824]
  rw [Int.sub_mul, Int.sub_mul, h2]
  omega
theorem al_mul {D1 D0 c f l p e : Int} (h : D1 + c * p = D0 + (f - 1) * e) : D1 + ((c + f * l) - l) * p = D0 + (f - 1) * (e + l * p) := by grind
theorem al_add {D1 D0 c f l p e x : Int} (h : D1 + c * p = D0 + f * e) : D1 + ((c + (l + f * x)) - l) * p = D0 + f * (e + x * p) := by grind
theorem al_car {D1 T c l p : Int} (h : D1 + c * p = T) : D1 + ((c + l) - l) * p = T := by grind
theorem al_prod {D1 D0 c f l pi pj e x : Int} (h : D1 + c * (pi * pj) = D0 + f * (pi * e)) : D1 + ((c + (l + f * x)) - l) * (pi * pj) = D0 + f * (pi * (e + x * pj)) := by grind
theorem al_div {N D e dv r p l q : Int} (h : N = dv * (D - (e + l * p)) + r * (p * 1073741824) + (e + l * p)) : N = dv * (D + (q - l) * p - e) + ((r * 1073741824 + l) - dv * q) * p + e := by grind
theorem al_sub {D1 D0 c f l p e x : Int} (h : D1 + c * p = D0 - f * e) : D1 + ((c + (l - f * x)) - l) * p = D0 - f * (e + x * p) := by grind
theorem al_cmb {D1 D0 c f g u v p e k : Int} (h : D1 + c * p = D0 - e + f * e + g * k) : D1 + ((c + (f * u + g * v)) - u) * p = D0 - (e + u * p) + f * (e + u * p) + g * (k + v * p) := by grind
theorem al_cmb2 {D1 D0 c f g u v p e k : Int} (h : D1 + c * p = D0 - k + f * e + g * k) : D1 + ((c + (f * u + g * v)) - v) * p = D0 - (k + v * p) + f * (e + u * p) + g * (k + v * p) := by grind
