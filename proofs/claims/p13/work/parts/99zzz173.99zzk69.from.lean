/-! The class's natural numbers: the bits from one on. -/
theorem bf_pure {N E P a0 a1 a2 : Int} {r : Nat} (hr : r < 30) (eN : N = E + P * (a0 + 1073741824 * (a1 + 1073741824 * a2))) (hE : 0 ≤ E ∧ E < P) : N / (P * 2 ^ r) = a0 / 2 ^ r + a1 * 2 ^ (30 - r) + a2 * 2 ^ (60 - r) := by
  have h1 : (2 : Int) ^ r * 2 ^ (30 - r) = 1073741824 := by rw [← Int.pow_add, show r + (30 - r) = 30 by omega]; decide
  have h2 : (2 : Int) ^ r * 2 ^ (60 - r) = 1073741824 * 1073741824 := by rw [← Int.pow_add, show r + (60 - r) = 60 by omega]; decide
  have hp : (0 : Int) < 2 ^ r := Int.pow_pos (by decide)
  rw [← Int.ediv_ediv_of_nonneg (by omega), eN, Int.add_mul_ediv_left _ _ (by omega), Int.ediv_eq_zero_of_lt hE.1 hE.2, Int.zero_add]
  have e : a0 + 1073741824 * (a1 + 1073741824 * a2) = a0 + 2 ^ r * (a1 * 2 ^ (30 - r) + a2 * 2 ^ (60 - r)) := by
    rw [Int.mul_add (2 ^ r), Int.mul_left_comm (2 ^ r) a1, h1, Int.mul_left_comm (2 ^ r) a2, h2]
    omega
  rw [e, Int.add_mul_ediv_left _ _ (by omega), Int.add_assoc]
theorem bf_top {N E P a0 a1 a2 : Int} {r : Nat} (eN : N = E + P * (a0 + 1073741824 * (a1 + 1073741824 * a2))) (hE : 0 ≤ E) (hP : 0 < P) (h0 : 0 ≤ a0) (h1 : 0 ≤ a1) (hN : N < P * (2 ^ r * 1152921504606846976)) : a2 < 2 ^ r := by
  have e1 : P * (a0 + 1073741824 * (a1 + 1073741824 * a2)) < P * (2 ^ r * 1152921504606846976) := by omega
  have e2 := Int.lt_of_mul_lt_mul_left e1 (Int.le_of_lt hP)
  omega
theorem sh_bd {x : Int} {k m : Nat} (h0 : 0 ≤ x) (h : x < 2 ^ m) (hk : m + k ≤ 60) : 0 ≤ x * 2 ^ k ∧ x * 2 ^ k < 1152921504606846976 := by
  have hp : (0 : Int) < 2 ^ k := Int.pow_pos (by decide)
  refine ⟨Int.mul_nonneg h0 (Int.le_of_lt hp), ?_⟩
  have h1 : x * 2 ^ k < 2 ^ m * 2 ^ k := Int.mul_lt_mul_of_pos_right h hp
  rw [← Int.pow_add] at h1
  have h2 : (2 : Int) ^ (m + k) ≤ 2 ^ 60 := by
    obtain ⟨t, ht⟩ := Nat.le.dest hk
    rw [← ht, Int.pow_add _ (m + k)]
    have h3 : (1 : Int) ≤ 2 ^ t := Int.pow_pos (by decide)
    have h4 := Int.mul_le_mul_of_nonneg_left h3 (Int.le_of_lt (show (0 : Int) < 2 ^ (m + k) from Int.pow_pos (by decide)))
    omega
  have h5 : (2 : Int) ^ 60 = 1152921504606846976 := by decide
  omega
theorem j_shlk {x : Int} (k : Nat) (hk : k < 64) (h : i64 (x * 2 ^ k)) : shlL x (k : Int) = x * 2 ^ k := by
  have e1 : ∀ k : Nat, k < 64 → ((((Int32.ofInt (k : Int)).toInt64 &&& 63).toBitVec.smod 64)) = BitVec.ofNat 64 k := by decide
  unfold shlL
  show ((BitVec.ofInt 64 x) <<< ((((Int32.ofInt (k : Int)).toInt64 &&& 63).toBitVec.smod 64))).toInt = _
  rw [e1 k hk]
  have e : (BitVec.ofInt 64 x) <<< (BitVec.ofNat 64 k) = BitVec.ofInt 64 (x * 2 ^ k) := by
    rw [BitVec.shiftLeft_eq', BitVec.toNat_ofNat, Nat.mod_eq_of_lt (by omega), BitVec.ofInt_mul, BitVec.shiftLeft_eq_mul_twoPow]
    congr 1
    apply BitVec.eq_of_toNat_eq
    rw [BitVec.toNat_twoPow, BitVec.toNat_ofInt]
    norm_cast
  rw [e]
  exact i64_toInt h
section NAH
variable {G : mG} {d a Y Cy s : Nat} {M : mM}
/-- a limb, 0 where there is none -/
def lb (f : Nat → Int) (s j : Nat) : Int := if j < s then f j else 0
theorem lb_dn {f : Nat → Int} {s n : Nat} (h : s ≤ n) : dn (lb f s) n = dn f s := by
  rw [dn_z (s := s) h (fun j h1 _ => by unfold lb; rw [if_neg (by omega)])]
  exact dn_cg s (fun j hj => by unfold lb; rw [if_pos hj])
theorem lb_l {f : Nat → Int} {s j : Nat} (h : lms f s) : 0 ≤ lb f s j ∧ lb f s j < 1073741824 := by
  unfold lb
  by_cases u : j < s
  · rw [if_pos u]; exact h j u
  · rw [if_neg u]; omega
theorem lb_3 {f : Nat → Int} {q : Nat} : dn f (q + 3) = dn f q + 2 ^ (30 * q) * (f q + 1073741824 * (f (q + 1) + 1073741824 * f (q + 2))) := by
  show dn f q + f q * 2 ^ (30 * q) + f (q + 1) * 2 ^ (30 * (q + 1)) + f (q + 2) * 2 ^ (30 * (q + 1 + 1)) = _
  rw [p30 (q + 1), p30 q]
  generalize (2 : Int) ^ (30 * q) = p
  grind
theorem s_Na_bitsFrom {bit : Nat} (hO : mOk M) (h : Nt M a Y Cy s) (hb : bit ≤ 1000000000) (hv : dn (mI M Y) s < 2 ^ (bit + 60)) : Cj G y_Na_bitsFrom d [vr a, vi bit] M (fun x M' => M' = M ∧ x = dn (mI M Y) s / 2 ^ bit) := by
  obtain ⟨hl, h1, h2, h3, h4⟩ := id h
  obtain ⟨k0, r0, kY, nY, ⟨c1, c2⟩, ne, z1, z2⟩ := id hl
  obtain ⟨q, r, eb, hr⟩ : ∃ q r, bit = 30 * q + r ∧ r < 30 := ⟨bit / 30, bit % 30, by omega, by omega⟩
  have sq : s ≤ q + 3 := by
    refine Classical.byContradiction (fun u => ?_)
    obtain ⟨t, rfl⟩ : ∃ t, s = t + 1 := ⟨s - 1, by omega⟩
    have a1 := dn_ge h3 (h4 (by omega))
    have a2 := p2m (m := bit + 60) (k := 30 * t) (by omega)
    omega
  have l0 := lb_l (j := q) h3
  have l1 := lb_l (j := q + 1) h3
  have l2 := lb_l (j := q + 2) h3
  have eN : dn (mI M Y) s = dn (lb (mI M Y) s) q + 2 ^ (30 * q) * (lb (mI M Y) s q + 1073741824 * (lb (mI M Y) s (q + 1) + 1073741824 * lb (mI M Y) s (q + 2))) := by rw [← lb_3, lb_dn sq]
  have hE : 0 ≤ dn (lb (mI M Y) s) q ∧ dn (lb (mI M Y) s) q < 2 ^ (30 * q) := ⟨dn_nn (fun j _ => lb_l h3), dn_lt (fun j _ => lb_l h3)⟩
  have t2 : lb (mI M Y) s (q + 2) < 2 ^ r := by
    refine bf_top eN hE.1 (p30p q) l0.1 l1.1 ?_
    rw [eb, show 30 * q + r + 60 = 30 * q + (r + 60) by omega, Int.pow_add, Int.pow_add] at hv
    exact hv
  have ans := bf_pure hr eN hE
  rw [← Int.pow_add, ← eb] at ans
  have ir : (r : Int) < 30 := by omega
  refine k_Na_bitsFrom hO ⟨by omega, by omega⟩ ?_
  rw [show Int.tdiv ((bit : Nat) : Int) 30 = ((q : Nat) : Int) by rw [Int.tdiv_eq_ediv_of_nonneg (by omega)]; omega, show Int.tmod ((bit : Nat) : Int) 30 = ((r : Nat) : Int) by rw [Int.tmod_eq_emod_of_nonneg (by omega)]; omega, h1, r0, nY, show ((q : Nat) : Int) + 1 = ((q + 1 : Nat) : Int) by omega, show ((q : Nat) : Int) + 2 = ((q + 2 : Nat) : Int) by omega, Int.toNat_natCast, Int.toNat_natCast, Int.toNat_natCast, show (30 : Int) - ((r : Nat) : Int) = ((30 - r : Nat) : Int) by omega, show (60 : Int) - ((r : Nat) : Int) = ((60 - r : Nat) : Int) by omega, j_sh1 r (by omega)]
  refine ⟨k0, fun y => ⟨kY, by omega⟩, fun v5 e5 => ⟨⟨by omega, by omega⟩, fun y => ⟨kY, by omega⟩, fun v12 e12 => ⟨⟨by omega, by omega⟩, fun y => ⟨kY, by omega⟩, fun v19 e19 => ⟨rfl, ?_⟩⟩⟩⟩
  rw [ans]
  have f5 : v5 = lb (mI M Y) s q / 2 ^ r := by
    rw [e5]
    unfold lb at l0 ⊢
    by_cases u : q < s
    · rw [if_neg (by omega), if_pos u]
      rw [if_pos u] at l0
      exact i_ush r (by omega) l0.1 (l30i l0)
    · rw [if_pos (by omega), if_neg u, Int.zero_ediv]
  have f12 : v12 = lb (mI M Y) s (q + 1) * 2 ^ (30 - r) := by
    rw [e12]
    unfold lb at l1 ⊢
    by_cases u : q + 1 < s
    · rw [if_neg (by omega), if_pos u]
      rw [if_pos u] at l1
      have bd := sh_bd (k := 30 - r) (m := 30) l1.1 (by rw [show (2 : Int) ^ 30 = 1073741824 by decide]; exact l1.2) (by omega)
      exact j_shlk (30 - r) (by omega) ⟨by omega, by omega⟩
    · rw [if_pos (by omega), if_neg u, Int.zero_mul]
  have f19 : v19 = lb (mI M Y) s (q + 2) * 2 ^ (60 - r) := by
    rw [e19]
    unfold lb at l2 t2 ⊢
    by_cases u : q + 2 < s
    · rw [if_neg (by omega), if_pos u]
      rw [if_pos u] at l2 t2
      have m1 : (2 : Int) ^ r ≤ 2 ^ 29 := p2m (by omega)
      have m2 : (2 : Int) ^ 29 = 536870912 := by decide
      have m3 : (0 : Int) < 2 ^ r := Int.pow_pos (by decide)
      rw [i_and r (by omega) (2 ^ r - 1) rfl ⟨by omega, by omega⟩, Int.emod_eq_of_lt l2.1 t2]
      have bd := sh_bd (k := 60 - r) (m := r) l2.1 t2 (by omega)
      exact j_shlk (60 - r) (by omega) ⟨by omega, by omega⟩
    · rw [if_pos (by omega), if_neg u, Int.zero_mul]
  rw [f5, f12, f19]
end NAH
