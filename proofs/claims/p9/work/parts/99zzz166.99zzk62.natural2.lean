section
/-! The class's natural numbers: questions. -/
section NAB
variable {G : mG} {d a b Y Cy s n X Cx r t : Nat} {M M' M1 M2 : mM}
theorem s_Na_isOne (hO : mOk M) (h : Nt M a Y Cy s) : Ci G y_Na_isOne d [vr a] M (fun x M' => M' = M ∧ (x = 0 ∨ x = 1) ∧ (x ≠ 0 → dn (mI M Y) s = 1)) := by
  obtain ⟨⟨k0, r0, kY, nY, ⟨c1, c2⟩, -⟩, sz1, -⟩ := h
  refine k_Na_isOne hO ?_
  rw [r0, nY]
  refine ⟨k0, fun _ => ⟨kY, ⟨by omega, by omega⟩⟩, fun v6 e6 => ⟨rfl, ?_⟩⟩
  rw [e6]
  split
  · rename_i hc
    refine ⟨Or.inr rfl, fun _ => ?_⟩
    obtain ⟨h1, h2⟩ := hc
    have s1 : s = 1 := by
      rw [sz1] at h1
      omega
    rw [s1]
    show 0 + mI M Y 0 * 2 ^ (30 * 0) = 1
    rw [h2]
    decide
  · exact ⟨Or.inl rfl, fun u => absurd rfl u⟩
end NAB
end
section
/-! Limbs of thirty bits: longs' bits, values, and Knuth's guess. -/
theorem j_and (x : Int) : andL x 1073741823 = x % 1073741824 := by
  unfold andL
  show (BitVec.ofInt 64 x &&& 1073741823#64).toInt = _
  have h0 : (BitVec.ofInt 64 x &&& 1073741823#64).toNat = (BitVec.ofInt 64 x).toNat % 1073741824 := by
    rw [BitVec.toNat_and]
    exact Nat.and_two_pow_sub_one_eq_mod _ 30
  have h1 : (BitVec.ofInt 64 x).toNat = (x % 18446744073709551616).toNat := by
    rw [BitVec.toNat_ofInt]; rfl
  rw [BitVec.toInt_eq_toNat_cond, h0, h1]
  have h3 : ((x % 18446744073709551616).toNat : Int) = x % 18446744073709551616 := Int.toNat_of_nonneg (Int.emod_nonneg _ (by decide))
  split <;> omega
theorem j_shr {x : Int} (h : i64 x) : shrL x 30 = x / 1073741824 := by
  unfold shrL
  show (BitVec.sshiftRight (BitVec.ofInt 64 x) _).toInt = _
  rw [BitVec.toInt_sshiftRight]
  have := i64_toInt h
  have e : (BitVec.ofInt 64 x).toInt = x := this
  rw [e]
  show x >>> 30 = _
  rw [Int.shiftRight_eq_div_pow]
  rfl
theorem j_ushr {x : Int} (h0 : 0 ≤ x) (h : x < 9223372036854775808) : ushrL x 30 = x / 1073741824 := by
  unfold ushrL
  show (BitVec.ushiftRight (BitVec.ofInt 64 x) 30).toInt = _
  have h1 : (BitVec.ofInt 64 x).toNat = x.toNat := by
    rw [BitVec.toNat_ofInt]
    show (x % 18446744073709551616).toNat = _
    rw [Int.emod_eq_of_lt h0 (by omega)]
  have h2 : (BitVec.ushiftRight (BitVec.ofInt 64 x) 30).toNat = x.toNat / 1073741824 := by
    show ((BitVec.ofInt 64 x) >>> 30).toNat = _
    rw [BitVec.toNat_ushiftRight, h1, Nat.shiftRight_eq_div_pow]
  rw [BitVec.toInt_eq_toNat_cond, h2]
  have h3 : ((x.toNat : Nat) : Int) = x := Int.toNat_of_nonneg h0
  split <;> omega
theorem j_shl {x : Int} (h : -8589934592 ≤ x ∧ x < 8589934592) : shlL x 30 = x * 1073741824 := by
  unfold shlL
  show ((BitVec.ofInt 64 x) <<< 30).toInt = _
  have e : (BitVec.ofInt 64 x) <<< 30 = BitVec.ofInt 64 (x * 1073741824) := by
    apply BitVec.eq_of_toNat_eq
    rw [BitVec.toNat_shiftLeft, BitVec.toNat_ofInt, BitVec.toNat_ofInt, Nat.shiftLeft_eq]
    show (x % 18446744073709551616).toNat * 1073741824 % 18446744073709551616 = ((x * 1073741824) % 18446744073709551616).toNat
    omega
  rw [e]
  exact i64_toInt (x := x * 1073741824) (by unfold i64; omega)
theorem j_c0 {x : Int} : cmpL x 0 = 0 ↔ x = 0 := by
  unfold cmpL; split
  · constructor <;> intro h <;> omega
  · split <;> constructor <;> intro h <;> first | omega | contradiction
theorem j_cn {x : Int} : cmpL x 0 < 0 ↔ x < 0 := by
  unfold cmpL; split
  · constructor <;> intro h <;> omega
  · split <;> constructor <;> intro h <;> omega
theorem j_cle {x z : Int} : cmpL x z ≤ 0 ↔ x ≤ z := by
  unfold cmpL; split
  · constructor <;> intro h <;> omega
  · split <;> constructor <;> intro h <;> omega
/-- powers of two as shifts of 1 -/
theorem j_sh1 : ∀ k : Nat, k ≤ 30 → shlI 1 (k : Int) = 2 ^ k := by
  have : ∀ k : Nat, k ≤ 30 → shlI 1 (k : Int) = ((2 ^ k : Nat) : Int) := by decide
  intro k hk
  rw [this k hk]
  norm_cast
section KNU
variable {P U V two u2 Ul v1 v2 Vl g : Int}
theorem kn_le {a b c : Int} (h : a ≤ b) (hc : 0 ≤ c) : a * c ≤ b * c := Int.mul_le_mul_of_nonneg_right h hc
/-- the guess is not too small -/
theorem kn_up (hP : 0 < P) (eU : U = (two * 1073741824 + u2) * P + Ul) (eV : V = (v1 * 1073741824 + v2) * P + Vl) (hl : Ul < P) (h2 : u2 < 1073741824) (k2 : 0 ≤ v2) (kl : 0 ≤ Vl) (hUV : U < V * 1073741824) (hg : 0 ≤ g) (h : g = 1073741823 ∨ two < (g + 1) * v1) : U < (g + 1) * V := by
  rcases h with h | h
  · rw [h]; omega
  · have a1 : (two + 1) * (1073741824 * P) ≤ ((g + 1) * v1) * (1073741824 * P) := kn_le (by omega) (by omega)
    have a2 : (u2 + 1) * P ≤ 1073741824 * P := kn_le (by omega) (by omega)
    have a3 : 0 ≤ (g + 1) * v2 * P := Int.mul_nonneg (Int.mul_nonneg (by omega) k2) (by omega)
    have a4 : 0 ≤ (g + 1) * Vl := Int.mul_nonneg (by omega) kl
    rw [eU, eV]
    clear eU eV hUV k2 kl h h2 hg
    grind
/-- and at most two too large -/
theorem kn_dn (hP : 0 < P) (eU : U = (two * 1073741824 + u2) * P + Ul) (eV : V = (v1 * 1073741824 + v2) * P + Vl) (hl : 0 ≤ Ul) (h2 : 0 ≤ u2) (k2 : 0 ≤ v2 ∧ v2 < 1073741824) (kl : 0 ≤ Vl ∧ Vl < P) (hv : 1073741824 ≤ 2 * v1) (hg : 0 ≤ g ∧ g < 1073741824) (h : g * v1 ≤ two) : (g - 2) * V ≤ U := by
  have a1 : (g * v1) * (1073741824 * P) ≤ two * (1073741824 * P) := kn_le h (by omega)
  have a2 : (v2 + 1) * P ≤ 1073741824 * P := kn_le (by omega) (by omega)
  have a3 : g * (v2 * P + Vl) ≤ g * (1073741824 * P) := Int.mul_le_mul_of_nonneg_left (by rw [Int.add_mul] at a2; omega) hg.1
  have a4 : g * (1073741824 * P) ≤ (2 * v1) * (1073741824 * P) := kn_le (by omega) (by omega)
  have a5 : 0 ≤ u2 * P := Int.mul_nonneg h2 (by omega)
  have a6 : 0 ≤ v2 * P := Int.mul_nonneg k2.1 (by omega)
  obtain ⟨k21, k22⟩ := k2
  obtain ⟨kl1, kl2⟩ := kl
  rw [eU, eV]
  clear eU eV h hg hv h2 a2 k21 k22
  grind
/-- a guess that the third limb tells to be too large -/
theorem kn_dec (hP : 0 < P) (eU : U = (two * 1073741824 + u2) * P + Ul) (eV : V = (v1 * 1073741824 + v2) * P + Vl) (hl : Ul < P) (kl : 0 ≤ Vl) (hg : 0 ≤ g) (h : (two - g * v1) * 1073741824 + u2 < g * v2) : U < (g - 1 + 1) * V := by
  have a1 : ((two - g * v1) * 1073741824 + u2 + 1) * P ≤ (g * v2) * P := kn_le (by omega) (by omega)
  have a4 : 0 ≤ g * Vl := Int.mul_nonneg hg kl
  rw [eU, eV]
  clear eU eV h hg
  grind
/-- a guess that the third limb lets pass is at most one too large -/
theorem kn_one (hP : 0 < P) (eU : U = (two * 1073741824 + u2) * P + Ul) (eV : V = (v1 * 1073741824 + v2) * P + Vl) (hl : 0 ≤ Ul) (k2 : 0 ≤ v2) (kl : 0 ≤ Vl ∧ Vl < P) (hv : 1 ≤ v1) (hg : 0 ≤ g ∧ g < 1073741824) (h : g * v2 ≤ (two - g * v1) * 1073741824 + u2) : (g - 1) * V ≤ U := by
  have a1 : (g * v2) * P ≤ ((two - g * v1) * 1073741824 + u2) * P := kn_le (by omega) (by omega)
  have a3 : g * Vl ≤ g * P := Int.mul_le_mul_of_nonneg_left (by omega) hg.1
  have a4 : g * P ≤ 1073741824 * P := kn_le (by omega) (by omega)
  have a5 : 1 * (1073741824 * P) ≤ v1 * (1073741824 * P) := kn_le hv (by omega)
  have a6 : 0 ≤ v2 * P := Int.mul_nonneg k2 (by omega)
  obtain ⟨kl1, kl2⟩ := kl
  rw [eU, eV]
  clear eU eV h hg hv k2
  grind
/-- what is left by the guess -/
theorem kn_rest (hP : 0 < P) (eU : U = (two * 1073741824 + u2) * P + Ul) (eV : V = (v1 * 1073741824 + v2) * P + Vl) (hl : 0 ≤ Ul) (h2 : 0 ≤ u2) (k2 : v2 < 1073741824) (kl : Vl < P) (hv : v1 < 1073741824) (hUV : U < V * 1073741824) (h1 : g * v1 ≤ two) (h : g = 1073741823 ∨ two < (g + 1) * v1) : 0 ≤ two - g * v1 ∧ two - g * v1 < 2147483648 := by
  refine ⟨by omega, ?_⟩
  rcases h with h | h
  · have a2 : (v2 + 1) * P ≤ 1073741824 * P := kn_le (by omega) (by omega)
    have a5 : 0 ≤ u2 * P := Int.mul_nonneg h2 (by omega)
    have a6 : two * (1073741824 * P) < ((v1 + 1) * 1073741824) * (1073741824 * P) := by
      clear h h1
      grind
    have a7 : two < (v1 + 1) * 1073741824 := Int.lt_of_mul_lt_mul_right a6 (by omega)
    rw [h]
    omega
  · rw [Int.add_mul, Int.one_mul] at h
    omega
/-- the true quotient -/
theorem kn_q {R : Int} (h1 : U < (g + 1) * V) (h0 : (g - 1) * V ≤ U) (hR : U - g * V = R) : (0 ≤ R → R < V) ∧ (R < 0 → 0 ≤ R + V) := by
  rw [Int.add_mul, Int.one_mul] at h1
  rw [Int.sub_mul, Int.one_mul] at h0
  omega
end KNU
theorem p30 (k : Nat) : (2 : Int) ^ (30 * (k + 1)) = 2 ^ (30 * k) * 1073741824 := by
  rw [show 30 * (k + 1) = 30 * k + 30 by omega, Int.pow_add]
  rfl
theorem p30p (k : Nat) : (0 : Int) < 2 ^ (30 * k) := Int.pow_pos (by decide)
theorem p30a (m k : Nat) : (2 : Int) ^ (30 * (m + k)) = 2 ^ (30 * m) * 2 ^ (30 * k) := by
  rw [show 30 * (m + k) = 30 * m + 30 * k by omega, Int.pow_add]
theorem p30m {m k : Nat} (h : m ≤ k) : (2 : Int) ^ (30 * m) ≤ 2 ^ (30 * k) := by
  obtain ⟨t, rfl⟩ := Nat.le.dest h
  rw [p30a]
  have h1 : (1 : Int) ≤ 2 ^ (30 * t) := p30p t
  have h2 := Int.mul_le_mul_of_nonneg_left h1 (Int.le_of_lt (p30p m))
  omega
theorem dn_s (f : Nat → Int) (k : Nat) : dn f (k + 1) = dn f k + f k * 2 ^ (30 * k) := rfl
/-- limbs -/
def lms (f : Nat → Int) (n : Nat) : Prop := ∀ j, j < n → 0 ≤ f j ∧ f j < 1073741824
theorem dn_nn {f : Nat → Int} : ∀ {n : Nat}, lms f n → 0 ≤ dn f n
  | 0, _ => Int.le_refl _
  | n + 1, h => by
    rw [dn_s]
    have h1 := dn_nn (n := n) (fun j hj => h j (by omega))
    have h2 := Int.mul_nonneg (h n (by omega)).1 (Int.le_of_lt (p30p n))
    omega
theorem dn_lt {f : Nat → Int} : ∀ {n : Nat}, lms f n → dn f n < 2 ^ (30 * n)
  | 0, _ => (by decide : (0 : Int) < 2 ^ (30 * 0))
  | n + 1, h => by
    rw [dn_s, p30]
    have h1 := dn_lt (n := n) (fun j hj => h j (by omega))
    have h2 := Int.mul_le_mul_of_nonneg_right (c := 2 ^ (30 * n)) (show f n ≤ 1073741823 by have := h n (by omega); omega) (Int.le_of_lt (p30p n))
    omega
theorem dn_ge {f : Nat → Int} {n : Nat} (h : lms f (n + 1)) (h0 : f n ≠ 0) : 2 ^ (30 * n) ≤ dn f (n + 1) := by
  rw [dn_s]
  have h1 := dn_nn (n := n) (fun j hj => h j (by omega))
  have h2 := Int.mul_le_mul_of_nonneg_right (c := 2 ^ (30 * n)) (show 1 ≤ f n by have := h n (by omega); omega) (Int.le_of_lt (p30p n))
  omega
/-- a number of s limbs without its highest is less -/
theorem dn_top {f : Nat → Int} {n : Nat} (h : lms f (n + 1)) (h0 : 2 ^ (30 * n) ≤ dn f (n + 1)) : f n ≠ 0 := by
  intro z
  rw [dn_s, z] at h0
  have h1 := dn_lt (n := n) (fun j hj => h j (by omega))
  omega
theorem dn_up {f g : Nat → Int} {i : Nat} : ∀ {n : Nat}, i < n → (∀ j, j < n → j ≠ i → g j = f j) → dn g n = dn f n + (g i - f i) * 2 ^ (30 * i)
  | 0, hi, _ => absurd hi (by omega)
  | n + 1, hi, h => by
    rw [dn_s, dn_s]
    by_cases z : i = n
    · subst z
      rw [dn_cg i (fun j hj => h j (by omega) (by omega)), Int.sub_mul]
      omega
    · rw [dn_up (n := n) (by omega) (fun j hj hj' => h j (by omega) hj'), h n (by omega) (fun u => z u.symm)]
      omega
theorem dn_z {f : Nat → Int} {s : Nat} : ∀ {n : Nat}, s ≤ n → (∀ j, s ≤ j → j < n → f j = 0) → dn f n = dn f s
  | 0, hs, _ => by rw [show s = 0 by omega]
  | n + 1, hs, h => by
    by_cases z : s = n + 1
    · rw [z]
    · rw [dn_s, h n (by omega) (by omega), dn_z (n := n) (by omega) (fun j h1 h2 => h j h1 (by omega))]
      omega
theorem dn_sp (f : Nat → Int) (m : Nat) : ∀ n, dn f (m + n) = dn f m + 2 ^ (30 * m) * dn (fun j => f (m + j)) n
  | 0 => by show dn f m = dn f m + 2 ^ (30 * m) * 0; omega
  | n + 1 => by
    show dn f (m + n) + f (m + n) * 2 ^ (30 * (m + n)) = dn f m + 2 ^ (30 * m) * (dn (fun j => f (m + j)) n + f (m + n) * 2 ^ (30 * n))
    rw [dn_sp f m n, p30a, Int.mul_add, Int.add_assoc, Int.mul_left_comm]
/-- the lowest limb apart -/
theorem dn_lo (f : Nat → Int) (n : Nat) : dn f (n + 1) = f 0 + 1073741824 * dn (fun j => f (1 + j)) n := by
  rw [show n + 1 = 1 + n by omega, dn_sp]
  show 0 + f 0 * 2 ^ (30 * 0) + _ = _
  rw [show (2 : Int) ^ (30 * 0) = 1 by decide, show (2 : Int) ^ (30 * 1) = 1073741824 by decide]
  omega
/-- sizes by values -/
theorem dn_sz {f : Nat → Int} {s n : Nat} (h : lms f s) (h0 : 0 < s → f (s - 1) ≠ 0) (hv : dn f s < 2 ^ (30 * n)) : s ≤ n := by
  refine Classical.byContradiction (fun u => ?_)
  obtain ⟨t, rfl⟩ : ∃ t, s = t + 1 := ⟨s - 1, by omega⟩
  have h1 := dn_ge h (h0 (by omega))
  have h2 := p30m (m := n) (k := t) (by omega)
  omega
/-- one step of a carry -/
theorem c_st {D D' l x : Int} {i : Nat} (e : D' = D + (x % 1073741824 - l) * 2 ^ (30 * i)) : D' + x / 1073741824 * 2 ^ (30 * (i + 1)) = D + (x - l) * 2 ^ (30 * i) := by
  rw [e, p30]
  have h := Int.emod_add_mul_ediv x 1073741824
  generalize (2 : Int) ^ (30 * i) = p at *
  have h2 : x * p = (x % 1073741824) * p + (x / 1073741824) * (p * 1073741824) := by
    conv => lhs; rw [← h]
    rw [Int.add_mul, Int.mul_comm 1073741824, Int.mul_assoc, Int.mul_comm 1073741824]
  rw [Int.sub_mul, Int.sub_mul, h2]
  omega
theorem al_mul {D1 D0 c f l p e : Int} (h : D1 + c * p = D0 + (f - 1) * e) : D1 + ((c + f * l) - l) * p = D0 + (f - 1) * (e + l * p) := by grind
theorem al_add {D1 D0 c f l p e x : Int} (h : D1 + c * p = D0 + f * e) : D1 + ((c + (l + f * x)) - l) * p = D0 + f * (e + x * p) := by grind
theorem al_car {D1 T c l p : Int} (h : D1 + c * p = T) : D1 + ((c + l) - l) * p = T := by grind
theorem al_prod {D1 D0 c f l pi pj e x : Int} (h : D1 + c * (pi * pj) = D0 + f * (pi * e)) : D1 + ((c + (l + f * x)) - l) * (pi * pj) = D0 + f * (pi * (e + x * pj)) := by grind
theorem al_div {N D e dv r p l q : Int} (h : N = dv * (D - (e + l * p)) + r * (p * 1073741824) + (e + l * p)) : N = dv * (D + (q - l) * p - e) + ((r * 1073741824 + l) - dv * q) * p + e := by grind
theorem al_sub {D1 D0 c f l p e x : Int} (h : D1 + c * p = D0 - f * e) : D1 + ((c + (l - f * x)) - l) * p = D0 - f * (e + x * p) := by grind
theorem al_cmb {D1 D0 c f g u v p e k : Int} (h : D1 + c * p = D0 - e + f * e + g * k) : D1 + ((c + (f * u + g * v)) - u) * p = D0 - (e + u * p) + f * (e + u * p) + g * (k + v * p) := by grind
theorem al_cmb2 {D1 D0 c f g u v p e k : Int} (h : D1 + c * p = D0 - k + f * e + g * k) : D1 + ((c + (f * u + g * v)) - v) * p = D0 - (k + v * p) + f * (e + u * p) + g * (k + v * p) := by grind
end
section
/-! The class's natural numbers: sums and multiples. -/
section NAC
variable {G : mG} {d a b Y Cy s n X Cx w : Nat} {M M' M1 M2 M3 : mM} {v : Int}
theorem i_ush {x : Int} (k : Nat) (hk : k < 32) (h0 : 0 ≤ x) (h : i32 x) : ushrI x k = x / 2 ^ k := by
  have e : ∀ k, k < 32 → ((Int32.ofInt ((k : Nat) : Int)).toUInt32 &&& Int32.toUInt32 31).toBitVec = BitVec.ofNat 32 k := by decide
  unfold ushrI
  show (BitVec.ofInt 32 x >>> (((Int32.ofInt ((k : Nat) : Int)).toUInt32 &&& Int32.toUInt32 31).toBitVec % 32#32)).toInt = _
  rw [e k hk]
  have e2 : ∀ k, k < 32 → (BitVec.ofNat 32 k % 32#32).toNat = k := by decide
  have h1 : (BitVec.ofInt 32 x).toNat = x.toNat := by
    rw [BitVec.toNat_ofInt]
    show (x % 4294967296).toNat = _
    rw [Int.emod_eq_of_lt h0 (by unfold i32 at h; omega)]
  have h2 : (BitVec.ofInt 32 x >>> (BitVec.ofNat 32 k % 32#32)).toNat = x.toNat / 2 ^ k := by
    rw [BitVec.ushiftRight_eq', e2 k hk, BitVec.toNat_ushiftRight, h1, Nat.shiftRight_eq_div_pow]
  rw [BitVec.toInt_eq_toNat_cond, h2]
  have h3 : ((x.toNat : Nat) : Int) = x := Int.toNat_of_nonneg h0
  have h4 : x.toNat / 2 ^ k ≤ x.toNat := Nat.div_le_self _ _
  have h5 : x.toNat < 2147483648 := by unfold i32 at h; omega
  rw [if_pos (by omega), Int.natCast_ediv, h3]
  norm_cast
theorem s_nlz {x : Int} (h0 : 0 < x) (h : i32 x) (hO : mOk M) : Ci G y_JI_nlz d [vi x] M (fun r M' => M' = M ∧ ∃ k : Nat, r = ((k : Nat) : Int) ∧ k ≤ 31 ∧ 2 ^ (31 - k) ≤ x ∧ x < 2 ^ (32 - k)) := by
  have us : ∀ (y : Int) (k : Nat), k < 32 → 0 ≤ y → i32 y → ushrI y (k : Int) = y / 2 ^ k := fun y k hk h0 h => i_ush k hk h0 h
  unfold i32 at h
  refine k_JI_nlz hO h ⟨fun _ v5 e5 v6 e6 v12 e12 v13 e13 v19 e19 v20 e20 v26 e26 v27 e27 => ⟨rfl, ?_⟩, fun y => absurd h0 y⟩
  have a1 : (x < 65536 ∧ v5 = x ∧ v6 = 31) ∨ (65536 ≤ x ∧ v5 = x / 65536 ∧ v6 = 15) := by
    by_cases c : x < 65536
    · rw [if_pos c] at e5 e6; exact Or.inl ⟨c, e5, e6⟩
    · rw [if_neg c] at e5 e6
      rw [show ushrI x 16 = x / 65536 from us x 16 (by decide) (by omega) h] at e5
      exact Or.inr ⟨by omega, e5, e6⟩
  have b5 : 0 < v5 ∧ v5 < 65536 := by omega
  have a2 : (v5 < 256 ∧ v12 = v5 ∧ v13 = v6) ∨ (256 ≤ v5 ∧ v12 = v5 / 256 ∧ v13 = v6 - 8) := by
    by_cases c : v5 < 256
    · rw [if_pos c] at e12 e13; exact Or.inl ⟨c, e12, e13⟩
    · rw [if_neg c] at e12 e13
      rw [show ushrI v5 8 = v5 / 256 from us v5 8 (by decide) (by omega) ⟨by omega, by omega⟩] at e12
      exact Or.inr ⟨by omega, e12, e13⟩
  have b12 : 0 < v12 ∧ v12 < 256 := by omega
  have a3 : (v12 < 16 ∧ v19 = v12 ∧ v20 = v13) ∨ (16 ≤ v12 ∧ v19 = v12 / 16 ∧ v20 = v13 - 4) := by
    by_cases c : v12 < 16
    · rw [if_pos c] at e19 e20; exact Or.inl ⟨c, e19, e20⟩
    · rw [if_neg c] at e19 e20
      rw [show ushrI v12 4 = v12 / 16 from us v12 4 (by decide) (by omega) ⟨by omega, by omega⟩] at e19
      exact Or.inr ⟨by omega, e19, e20⟩
  have b19 : 0 < v19 ∧ v19 < 16 := by omega
  have a4 : (v19 < 4 ∧ v26 = v19 ∧ v27 = v20) ∨ (4 ≤ v19 ∧ v26 = v19 / 4 ∧ v27 = v20 - 2) := by
    by_cases c : v19 < 4
    · rw [if_pos c] at e26 e27; exact Or.inl ⟨c, e26, e27⟩
    · rw [if_neg c] at e26 e27
      rw [show ushrI v19 2 = v19 / 4 from us v19 2 (by decide) (by omega) ⟨by omega, by omega⟩] at e26
      exact Or.inr ⟨by omega, e26, e27⟩
  have b26 : 0 < v26 ∧ v26 < 4 := by omega
  have e1 : ushrI v26 1 = v26 / 2 := us v26 1 (by decide) (by omega) ⟨by omega, by omega⟩
  rw [e1]
  clear e5 e6 e12 e13 e19 e20 e26 e27 us e1
  have fin : ∀ (k : Nat) (p q : Int), k ≤ 31 → v27 - v26 / 2 = (k : Int) → p = 2 ^ (31 - k) → q = 2 ^ (32 - k) → (p ≤ x ∧ x < q) → ∃ k : Nat, v27 - v26 / 2 = ((k : Nat) : Int) ∧ k ≤ 31 ∧ 2 ^ (31 - k) ≤ x ∧ x < 2 ^ (32 - k) := fun k p q hk e ep eq u => ⟨k, e, hk, by rw [← ep]; exact u.1, by rw [← eq]; exact u.2⟩
  rcases a1 with ⟨c1, q1, r1⟩ | ⟨c1, q1, r1⟩ <;> rcases a2 with ⟨c2, q2, r2⟩ | ⟨c2, q2, r2⟩ <;> rcases a3 with ⟨c3, q3, r3⟩ | ⟨c3, q3, r3⟩ <;> rcases a4 with ⟨c4, q4, r4⟩ | ⟨c4, q4, r4⟩ <;> rcases (show v26 = 1 ∨ 2 ≤ v26 by omega) with c5 | c5
  · exact fin 31 1 2 (by decide) (by omega) (by decide) (by decide) ⟨by omega, by omega⟩
  · exact fin 30 2 4 (by decide) (by omega) (by decide) (by decide) ⟨by omega, by omega⟩
  · exact fin 29 4 8 (by decide) (by omega) (by decide) (by decide) ⟨by omega, by omega⟩
  · exact fin 28 8 16 (by decide) (by omega) (by decide) (by decide) ⟨by omega, by omega⟩
  · exact fin 27 16 32 (by decide) (by omega) (by decide) (by decide) ⟨by omega, by omega⟩
  · exact fin 26 32 64 (by decide) (by omega) (by decide) (by decide) ⟨by omega, by omega⟩
  · exact fin 25 64 128 (by decide) (by omega) (by decide) (by decide) ⟨by omega, by omega⟩
  · exact fin 24 128 256 (by decide) (by omega) (by decide) (by decide) ⟨by omega, by omega⟩
  · exact fin 23 256 512 (by decide) (by omega) (by decide) (by decide) ⟨by omega, by omega⟩
  · exact fin 22 512 1024 (by decide) (by omega) (by decide) (by decide) ⟨by omega, by omega⟩
  · exact fin 21 1024 2048 (by decide) (by omega) (by decide) (by decide) ⟨by omega, by omega⟩
  · exact fin 20 2048 4096 (by decide) (by omega) (by decide) (by decide) ⟨by omega, by omega⟩
  · exact fin 19 4096 8192 (by decide) (by omega) (by decide) (by decide) ⟨by omega, by omega⟩
  · exact fin 18 8192 16384 (by decide) (by omega) (by decide) (by decide) ⟨by omega, by omega⟩
  · exact fin 17 16384 32768 (by decide) (by omega) (by decide) (by decide) ⟨by omega, by omega⟩
  · exact fin 16 32768 65536 (by decide) (by omega) (by decide) (by decide) ⟨by omega, by omega⟩
  · exact fin 15 65536 131072 (by decide) (by omega) (by decide) (by decide) ⟨by omega, by omega⟩
  · exact fin 14 131072 262144 (by decide) (by omega) (by decide) (by decide) ⟨by omega, by omega⟩
  · exact fin 13 262144 524288 (by decide) (by omega) (by decide) (by decide) ⟨by omega, by omega⟩
  · exact fin 12 524288 1048576 (by decide) (by omega) (by decide) (by decide) ⟨by omega, by omega⟩
  · exact fin 11 1048576 2097152 (by decide) (by omega) (by decide) (by decide) ⟨by omega, by omega⟩
  · exact fin 10 2097152 4194304 (by decide) (by omega) (by decide) (by decide) ⟨by omega, by omega⟩
  · exact fin 9 4194304 8388608 (by decide) (by omega) (by decide) (by decide) ⟨by omega, by omega⟩
  · exact fin 8 8388608 16777216 (by decide) (by omega) (by decide) (by decide) ⟨by omega, by omega⟩
  · exact fin 7 16777216 33554432 (by decide) (by omega) (by decide) (by decide) ⟨by omega, by omega⟩
  · exact fin 6 33554432 67108864 (by decide) (by omega) (by decide) (by decide) ⟨by omega, by omega⟩
  · exact fin 5 67108864 134217728 (by decide) (by omega) (by decide) (by decide) ⟨by omega, by omega⟩
  · exact fin 4 134217728 268435456 (by decide) (by omega) (by decide) (by decide) ⟨by omega, by omega⟩
  · exact fin 3 268435456 536870912 (by decide) (by omega) (by decide) (by decide) ⟨by omega, by omega⟩
  · exact fin 2 536870912 1073741824 (by decide) (by omega) (by decide) (by decide) ⟨by omega, by omega⟩
  · exact fin 1 1073741824 2147483648 (by decide) (by omega) (by decide) (by decide) ⟨by omega, by omega⟩
  · exact fin 0 2147483648 4294967296 (by decide) (by omega) (by decide) (by decide) ⟨by omega, by omega⟩
theorem s_JA_fillR {p q : Nat} (hO : mOk M) (hK : mK M a = 30) (hp : p ≤ q) (hq : q ≤ mN M a) (hN : mN M a ≤ 100000) (hv : i32 v) : Cv G y_JA_fillR (d + 2) [vr a, vi p, vi q, vi v] M (fun M' => mOk M' ∧ FI (fun x => x = a) M M' ∧ ∀ i, mI M' a i = if p ≤ i ∧ i < q then v else mI M a i) := by
  refine k_JA_fillR hO ⟨by omega, by omega⟩ ⟨by omega, by omega⟩ hv ⟨hK, ?_⟩
  refine k_JA_rangeCheck hO ⟨by omega, by omega⟩ ⟨by omega, by omega⟩ ⟨by omega, by omega⟩ ⟨fun _ => ⟨fun _ => ⟨fun _ => ⟨hO, ?_⟩, fun y => y (by omega)⟩, fun y => y (by omega)⟩, fun y => y (by omega)⟩
  suffices HH : ∀ (t i : Nat) (M1 : mM), q ≤ i + t → p ≤ i → i ≤ q → mOk M1 → FI (fun x => x = a) M M1 → (∀ j, mI M1 a j = if p ≤ j ∧ j < i then v else mI M a j) → h_JA_fillR_10 G (d + 1) a q v i M1 (fun M' => mOk M' ∧ FI (fun x => x = a) M M' ∧ ∀ i, mI M' a i = if p ≤ i ∧ i < q then v else mI M a i) from HH q p M (by omega) (by omega) hp hO FI.refl (fun j => by rw [if_neg (by omega)])
  intro t
  induction t with
  | zero =>
    intro i M1 h1 h2 h3 o f hj
    have e : i = q := by omega
    subst e
    exact k_JA_fillR_10 o ⟨by omega, by omega⟩ hv ⟨by omega, by omega⟩ ⟨fun _ => ⟨o, f, hj⟩, fun y => absurd y (by omega)⟩
  | succ t ih =>
    intro i M1 h1 h2 h3 o f hj
    refine k_JA_fillR_10 o ⟨by omega, by omega⟩ hv ⟨by omega, by omega⟩ ⟨fun y => ?_, fun y => ?_⟩
    · have e : i = q := by omega
      subst e
      exact ⟨o, f, hj⟩
    · rw [f.1, f.2.1, Int.toNat_natCast]
      refine ⟨hK, by omega, fun M8 e8 => ?_⟩
      rw [show ((i : Int) + 1) = ((i + 1 : Nat) : Int) by omega]
      refine ih (i + 1) M8 (by omega) (by omega) (by omega) (by rw [e8]; exact mOk_UI o hv) (f.trans (by rw [e8]; exact FI.ui rfl)) (fun j => ?_)
      rw [mI_ui a j e8, hj j]
      by_cases y1 : j = i
      · rw [if_pos ⟨rfl, y1⟩, if_pos (by omega)]
      · rw [if_neg (fun u => y1 u.2)]
        by_cases y2 : p ≤ j ∧ j < i
        · rw [if_pos y2, if_pos (by omega)]
        · rw [if_neg y2, if_neg (by omega)]
/-- a number becomes v; it wanted at most w limbs -/
def nst (M : mM) (a Y Cy w : Nat) (v : Int) (M' : mM) : Prop := mOk M' ∧ ∃ Y' Cy' s', Nt M' a Y' Cy' s' ∧ dn (mI M' Y') s' = v ∧ FA (fun x => x = a ∨ x = Y) (fun x => x = a) M M' ∧ ((Y' = Y ∧ Cy' = Cy ∧ mZ M' = mZ M ∧ mS M' = mS M) ∨ (Y' = mZ M ∧ Cy' ≤ 2 * w ∧ 2 * Cy ≤ Cy' ∧ mZ M' = mZ M + 1 ∧ mS M' = mS M + Cy'))
theorem nst_fi {s' : Nat} (h : Nt M' a Y Cy s') (o : mOk M') (f : FI (fun x => x = a ∨ x = Y) M M') (e : dn (mI M' Y) s' = v) : nst M a Y Cy w v M' :=
  ⟨o, Y, Cy, s', h, e, f.fa, Or.inl ⟨rfl, rfl, f.2.2.2.2.1, f.2.2.2.2.2.1⟩⟩
/-- what reserve left -/
def rsv (M : mM) (a Y Cy w Y' Cy' : Nat) (M' : mM) : Prop := (Y' = Y ∧ Cy' = Cy ∧ M' = M) ∨ (Y' = mZ M ∧ mZ M' = mZ M + 1 ∧ mS M' = mS M + Cy' ∧ 2 * Cy ≤ Cy' ∧ Cy' ≤ 2 * w)
theorem nst_rs {Y' Cy' s' : Nat} (F : FA (fun _ => False) (fun x => x = a) M M1) (g : rsv M a Y Cy w Y' Cy' M1) (f : FI (fun x => x = a ∨ x = Y') M1 M') (o : mOk M') (h : Nt M' a Y' Cy' s') (e : dn (mI M' Y') s' = v) : nst M a Y Cy w v M' := by
  refine ⟨o, Y', Cy', s', h, e, (F.mono (fun _ _ y => y.elim) (fun _ _ y => y)).trans2 (f.fa (R := fun _ => False)) ?_ (fun _ _ y => y.elim), ?_⟩
  · intro x hx u
    rcases u with u | u
    · exact Or.inl u
    · rcases g with ⟨g, -⟩ | ⟨g, -⟩
      · exact Or.inr (u.trans g)
      · omega
  · rcases g with ⟨g1, g2, g3⟩ | ⟨g1, g2, g3, g4, g5⟩
    · exact Or.inl ⟨g1, g2, by rw [f.2.2.2.2.1, g3], by rw [f.2.2.2.2.2.1, g3]⟩
    · exact Or.inr ⟨g1, g5, g4, by rw [f.2.2.2.2.1, g2], by rw [f.2.2.2.2.2.1, g3]⟩
theorem dn_ui {i : Nat} {x : Int} (hi : i < n) (e : M' = mUI M Y i x) : dn (mI M' Y) n = dn (mI M Y) n + (x - mI M Y i) * 2 ^ (30 * i) := by
  have h := dn_up (f := mI M Y) (g := mI M' Y) hi (fun j _ hj' => by rw [mI_ui Y j e, if_neg (fun u => hj' u.2)])
  rw [h, mI_ui Y i e, if_pos ⟨rfl, rfl⟩]
theorem lim_ui {i : Nat} {x : Int} (h : lim M Y n) (hx : 0 ≤ x ∧ x < 1073741824) (e : M' = mUI M Y i x) : lim M' Y n := fun j hj => by
  rw [mI_ui Y j e]
  by_cases c : Y = Y ∧ j = i
  · rw [if_pos c]; exact hx
  · rw [if_neg c]; exact h j hj
theorem m30 (x : Int) : 0 ≤ x % 1073741824 ∧ x % 1073741824 < 1073741824 := ⟨Int.emod_nonneg _ (by decide), Int.emod_lt_of_pos _ (by decide)⟩
theorem m30i (x : Int) : i32 (x % 1073741824) := ⟨by have := m30 x; omega, by have := m30 x; omega⟩
theorem l30i {x : Int} (h : 0 ≤ x ∧ x < 1073741824) : i32 x := ⟨by omega, by omega⟩
theorem s_Na_put0v {x : Int} (hx : 0 ≤ x ∧ x < 1073741824) (hO : mOk M) (h : Nl M a Y Cy) : Cv G y_Na_put0 d [vr a, vi x] M (nst M a Y Cy w x) := by
  refine (s_Na_put0 hx hO h).mono (fun M' q => ?_)
  obtain ⟨o, f, s, -, t, e⟩ := q
  exact nst_fi t o f e
theorem s_Na_putLong {x : Int} (hx : 0 ≤ x ∧ x < 1152921504606846976) (hO : mOk M) (h : Nl M a Y Cy) : Cv G y_Na_putLong (d + 1) [vr a, vl x] M (nst M a Y Cy w x) := by
  obtain ⟨k0, r0, kY, nY, ⟨c1, c2⟩, ne, z1, z2⟩ := id h
  refine k_Na_putLong hO ⟨by omega, by omega⟩ ?_
  rw [r0, nY, j_and, j_ushr hx.1 (by omega)]
  refine ⟨k0, kY, ⟨by omega, by omega⟩, m30i _, fun M5 e5 => ?_⟩
  have f5 : FI (fun y => y = Y) M M5 := by rw [e5]; exact FI.ui rfl
  rw [f5.1, f5.2.1, f5.2.2.1, r0, nY]
  refine ⟨kY, ⟨by omega, by omega⟩, ⟨by omega, by omega⟩, fun M10 e10 => ?_⟩
  have f10 : FI (fun y => y = Y) M5 M10 := by rw [e10]; exact FI.ui rfl
  have o10 : mOk M10 := by rw [e10]; exact mOk_UI (by rw [e5]; exact mOk_UI hO (m30i _)) ⟨by omega, by omega⟩
  have y0 : mI M10 Y 0 = x % 1073741824 := by rw [mI_ui Y 0 e10, if_neg (fun u => absurd u.2 (by decide)), mI_ui Y 0 e5, if_pos ⟨rfl, rfl⟩]
  have y1 : mI M10 Y 1 = x / 1073741824 := by rw [mI_ui Y 1 e10, if_pos ⟨rfl, rfl⟩]
  have ff := f5.trans f10
  refine (s_Na_trim (n := 2) o10 (h.fi ff) (by omega) (fun j hj => ?_)).mono (fun M12 q => ?_)
  · rcases (show j = 0 ∨ j = 1 by omega) with u | u
    · rw [u, y0]; exact m30 x
    · rw [u, y1]; omega
  · obtain ⟨o, f, -, s, -, t, e⟩ := q
    refine ⟨o, nst_fi t o ((ff.mono (fun _ u => Or.inr u)).trans (f.mono (fun _ u => Or.inl u))) ?_⟩
    rw [e]
    show 0 + mI M10 Y 0 * 2 ^ (30 * 0) + mI M10 Y 1 * 2 ^ (30 * 1) = x
    rw [y0, y1, show (2 : Int) ^ (30 * 0) = 1 by decide, show (2 : Int) ^ (30 * 1) = 1073741824 by decide]
    omega
end NAC
end
