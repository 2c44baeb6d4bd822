section
/-! The reference's choose: whether it is refused. -/
section RCH
variable {G : mG} {d a : Nat} {M M' : mM} {Nt9 : tP9} {i9 : tI9}
theorem e_MM_choose1 {l1 l2 : Int} (i1 : i32 l1) (i2 : i32 l2) (h : RI Nt9 M a) : Cv G y_MM_choose1 (d + 2) [vr a, vi l1, vi l2] M (fun M' => (RI Nt9 M' a ∧ FX M a M') ∧ ((cmA9 Nt9.2.2.2.2.2.2.2.2.2 l1 l2 = none ∧ mI M' a 0 = 1) ∨ (cmA9 Nt9.2.2.2.2.2.2.2.2.2 l1 l2 ≠ none ∧ mI M' a 0 = 0))) := by
  refine k_MM_choose1 h.1 i1 i2 ⟨h.2.1.1.1, (e_MM_isCommand i1 i2 h).mono (fun x M1 q => ?_)⟩
  obtain ⟨⟨ix, r1, F1⟩, hx⟩ := q
  refine ⟨ix, r1.1, fun v e => ⟨r1.2.1.1.1, fun M2 e2 => ?_⟩⟩
  have iv : i32 v := by rw [e]; split <;> exact ⟨by decide, by decide⟩
  obtain ⟨r2, F2, f2⟩ := r1.step iv ⟨by decide, by decide, by decide⟩ e2
  rw [r2.2.1.pl3.2.2.2.2.2.2.2.2]
  refine ⟨fun q => ?_, fun q => ⟨⟨r2, F1.trans F2⟩, Or.inl ?_⟩⟩
  · have x0 : x ≠ 0 := fun z => by
      rw [f2, if_pos rfl, e, if_pos z] at q
      omega
    have hc := hx.mp x0
    have cm := r1.xe.cm2 hc
    obtain ⟨q1, q2, q3⟩ := hc
    have e8 : mI M2 (a + 108) = mI M1 (a + 108) := by rw [e2]; funext j; rw [mI_UI, if_neg (fun z => by omega)]
    have e29 : mI M2 a 29 = mI M1 a 29 := by rw [f2, if_neg (by decide)]
    obtain ⟨j, -, -, -, -, -, -, -, j7⟩ := r2.cm (by rw [e29]; exact q1) q2 (by rw [e8]; exact q3)
    have t := s_MS_tell (G := G) (d := d + 1) (k := l1.toNat) (i := l2.toNat) r2.1 r2.sv (by omega) (by omega)
    rw [Int.toNat_of_nonneg q1.1, Int.toNat_of_nonneg q2] at t
    refine ⟨r2.sv.1.1, t.mono (fun M3 q => ?_)⟩
    obtain ⟨o, f, S3⟩ := q
    obtain ⟨r3, F3, e3⟩ := r2.sol o (fi_vk f).1 (fun x z => Or.inl z) S3 (fi_vk f).2
    exact ⟨o, ⟨r3, F1.trans (F2.trans F3)⟩, Or.inr ⟨by rw [cm]; exact Option.some_ne_none _, by rw [e3, f2, if_pos rfl, e, if_neg x0]⟩⟩
  · have x0 : x = 0 := Classical.byContradiction (fun z => by
      rw [f2, if_pos rfl, e, if_neg z] at q
      omega)
    exact ⟨r1.xe.cm1 (fun z => (hx.mpr z) x0), by rw [f2, if_pos rfl, e, if_pos x0]⟩
end RCH
end
section
/-! The class's natural numbers: places, values, small steps. -/
section NAA
variable {G : mG} {d a b Y Cy s n X Cx t : Nat} {M M' M1 M2 : mM}
/-- the value of k limbs of thirty bits -/
def dn (f : Nat → Int) : Nat → Int
  | 0 => 0
  | k + 1 => dn f k + f k * 2 ^ (30 * k)
theorem dn_cg {f g : Nat → Int} : ∀ k, (∀ j, j < k → f j = g j) → dn f k = dn g k
  | 0, _ => rfl
  | k + 1, h => by
    show dn f k + f k * 2 ^ (30 * k) = dn g k + g k * 2 ^ (30 * k)
    rw [dn_cg k (fun j hj => h j (by omega)), h k (by omega)]
/-- a number's places: Y its limbs, of Cy places -/
def Nl (M : mM) (a Y Cy : Nat) : Prop := mK M a = 10 ∧ mR M a 0 = Y ∧ mK M Y = 30 ∧ mN M Y = Cy ∧ (4 ≤ Cy ∧ Cy ≤ 100000) ∧ a ≠ Y ∧ (a < mZ M ∧ Y < mZ M)
/-- limbs that are limbs -/
def lim (M : mM) (Y n : Nat) : Prop := ∀ j, j < n → 0 ≤ mI M Y j ∧ mI M Y j < 1073741824
/-- a number of s limbs -/
def Nt (M : mM) (a Y Cy s : Nat) : Prop := Nl M a Y Cy ∧ mI M a 1 = ((s : Nat) : Int) ∧ s ≤ Cy ∧ lim M Y s ∧ (0 < s → mI M Y (s - 1) ≠ 0)
theorem Nl.fi {S : Nat → Prop} (h : Nl M a Y Cy) (f : FI S M M') : Nl M' a Y Cy := by
  obtain ⟨f1, f2, f3, -, f5, -⟩ := f
  unfold Nl at h ⊢
  rw [f1, f2, f3, f5]
  exact h
theorem s_Na_trim (hO : mOk M) (h : Nl M a Y Cy) (hn : n ≤ Cy) (hl : lim M Y n) : Cv G y_Na_trim d [vr a, vi n] M (fun M' => mOk M' ∧ FI (fun x => x = a) M M' ∧ (∀ i, i ≠ 1 → mI M' a i = mI M a i) ∧ ∃ s, s ≤ n ∧ Nt M' a Y Cy s ∧ dn (mI M' Y) s = dn (mI M Y) n) := by
  obtain ⟨k0, r0, kY, nY, ⟨c1, c2⟩, ne, z1, z2⟩ := id h
  refine k_Na_trim hO ⟨by omega, by omega⟩ ⟨k0, fun M2 e2 => ?_⟩
  have f2 : FI (fun x => x = a) M M2 := by rw [e2]; exact FI.ui rfl
  suffices HH : ∀ (t : Nat) (M1 : mM), t ≤ n → mOk M1 → FI (fun x => x = a) M M1 → (∀ i, i ≠ 1 → mI M1 a i = mI M a i) → mI M1 a 1 = ((t : Nat) : Int) → dn (mI M Y) t = dn (mI M Y) n → h_Na_trim_5 G d a M1 (fun M' => mOk M' ∧ FI (fun x => x = a) M M' ∧ (∀ i, i ≠ 1 → mI M' a i = mI M a i) ∧ ∃ s, s ≤ n ∧ Nt M' a Y Cy s ∧ dn (mI M' Y) s = dn (mI M Y) n) from HH n M2 (Nat.le_refl _) (by rw [e2]; exact mOk_UI hO ⟨by omega, by omega⟩) f2 (fun i hi => by rw [mI_ui a i e2, if_neg (fun u => hi u.2)]) (by rw [mI_ui a 1 e2, if_pos ⟨rfl, rfl⟩]) rfl
  intro t
  induction t with
  | zero =>
    intro M1 ht o f hi h1 hd
    have nb := f.2.2.2.2.2.2 Y (fun u => ne u.symm)
    refine k_Na_trim_5 o ⟨by rw [f.1]; exact k0, fun y => absurd y (by omega), fun _ => ⟨o, f, hi, 0, by omega, ⟨h.fi f, h1, by omega, fun j hj => absurd hj (by omega), fun u => absurd u (by omega)⟩, hd⟩, fun y => absurd (Or.inl (by omega)) y⟩
  | succ t ih =>
    intro M1 ht o f hi h1 hd
    have nb := f.2.2.2.2.2.2 Y (fun u => ne u.symm)
    refine k_Na_trim_5 o ?_
    rw [f.1, f.2.1, f.2.2.1, r0, nY, h1, show Int.toNat (((t + 1 : Nat) : Int) - 1) = t by omega, nb]
    refine ⟨k0, fun _ => ⟨kY, by omega⟩, fun y => ⟨o, f, hi, t + 1, ht, ⟨h.fi f, h1, by omega, fun j hj => by rw [nb]; exact hl j (by omega), fun _ => ?_⟩, hd⟩, fun y => ⟨⟨by omega, by omega⟩, fun M14 e14 => ?_⟩⟩
    · rw [nb, show t + 1 - 1 = t by omega]
      rcases y with y | y
      · omega
      · exact y
    · have y0 : mI M Y t = 0 := Classical.byContradiction (fun u => y (Or.inr u))
      have f14 : FI (fun x => x = a) M1 M14 := by rw [e14]; exact FI.ui rfl
      refine ih M14 (by omega) (by rw [e14]; exact mOk_UI o ⟨by omega, by omega⟩) (f.trans f14) (fun i hi' => by rw [mI_ui a i e14, if_neg (fun u => hi' u.2)]; exact hi i hi') (by rw [mI_ui a 1 e14, if_pos ⟨rfl, rfl⟩]; omega) ?_
      rw [← hd]
      show dn (mI M Y) t = dn (mI M Y) t + mI M Y t * 2 ^ (30 * t)
      rw [y0, Int.zero_mul, Int.add_zero]
/-- room for w limbs -/
theorem s_Na_reserve {w : Nat} (hO : mOk M) (h : Nl M a Y Cy) (hw : w ≤ 50000) (hC : Cy ≤ 50000) : Cv G y_Na_reserve (d + 2) [vr a, vi w] M (fun M' => mOk M' ∧ ∃ Y' Cy', Nl M' a Y' Cy' ∧ w ≤ Cy' ∧ Cy ≤ Cy' ∧ FA (fun _ => False) (fun x => x = a) M M' ∧ (∀ i, i ≠ 0 → mR M' a i = mR M a i) ∧ (∀ j, j < Cy → mI M' Y' j = mI M Y j) ∧ ((Y' = Y ∧ Cy' = Cy ∧ M' = M) ∨ (Y' = mZ M ∧ mZ M' = mZ M + 1 ∧ mS M' = mS M + Cy' ∧ 2 * Cy ≤ Cy' ∧ Cy' ≤ 2 * w))) := by
  obtain ⟨k0, r0, kY, nY, ⟨c1, c2⟩, ne, z1, z2⟩ := id h
  refine k_Na_reserve hO ⟨by omega, by omega⟩ ?_
  rw [r0, nY]
  refine ⟨k0, kY, ⟨by omega, by omega⟩, fun y => ⟨hO, Y, Cy, h, by omega, Nat.le_refl _, FA.refl, fun _ _ => rfl, fun _ _ => rfl, Or.inl ⟨rfl, rfl, rfl⟩⟩, fun y => ⟨⟨by omega, by omega⟩, ?_⟩⟩
  obtain ⟨l, el, l1, l2, l3⟩ : ∃ l : Nat, (if ((w : Nat) : Int) < 2 * ((Cy : Nat) : Int) then 2 * ((Cy : Nat) : Int) else ((w : Nat) : Int)) = ((l : Nat) : Int) ∧ 2 * Cy ≤ l ∧ w ≤ l ∧ l ≤ 2 * w := by
    by_cases u : ((w : Nat) : Int) < 2 * ((Cy : Nat) : Int)
    · exact ⟨2 * Cy, by rw [if_pos u]; omega, by omega, by omega, by omega⟩
    · exact ⟨w, by rw [if_neg u], by omega, by omega, by omega⟩
  rw [el]
  refine (s_JA_copyOf hO kY z2 (by omega) (by omega)).mono (fun x M9 q => ?_)
  obtain ⟨ex, o9, f9, Z9, S9, K9, N9, I9⟩ := q
  subst ex
  rw [nY] at I9
  refine ⟨o9, by rw [(f9.2 a z1).1]; exact k0, fun M15 e15 => ?_⟩
  have F15 : FA (fun _ => False) (fun x => x = a) M M15 := (f9.mono (fun _ _ y => y) (fun _ _ y => y.elim)).trans (FA.ur rfl e15)
  have Z15 : mZ M15 = mZ M + 1 := by rw [e15]; exact Z9
  refine ⟨by rw [e15]; exact mOk_UR o9, mZ M, l, ⟨by rw [(F15.2 a z1).1]; exact k0, by rw [e15, mR_UR, if_pos ⟨rfl, rfl⟩], by rw [e15]; exact K9, by rw [e15]; exact N9, ⟨by omega, by omega⟩, by omega, by omega, by omega⟩, l2, by omega, F15, fun i hi => by rw [e15, mR_UR, if_neg (fun u => hi u.2), (f9.2 a z1).2.2.2.1 (fun q => q)], fun j hj => by rw [e15, mI_UR]; exact I9 j hj, Or.inr ⟨rfl, Z15, by rw [e15, mS_UR]; exact S9, l1, l3⟩⟩
theorem s_Na_put0 {x : Int} (hx : 0 ≤ x ∧ x < 1073741824) (hO : mOk M) (h : Nl M a Y Cy) : Cv G y_Na_put0 d [vr a, vi x] M (fun M' => mOk M' ∧ FI (fun y => y = a ∨ y = Y) M M' ∧ ∃ s, s ≤ 1 ∧ Nt M' a Y Cy s ∧ dn (mI M' Y) s = x) := by
  obtain ⟨k0, r0, kY, nY, ⟨c1, c2⟩, ne, z1, z2⟩ := id h
  refine k_Na_put0 hO ⟨by omega, by omega⟩ ?_
  rw [r0, nY]
  refine ⟨k0, kY, ⟨by omega, by omega⟩, fun M4 e4 v7 e7 M12 e12 => ?_⟩
  have f4 : FI (fun y => y = Y) M M4 := by rw [e4]; exact FI.ui rfl
  have f12 : FI (fun y => y = a) M4 M12 := by rw [e12]; exact FI.ui rfl
  have ff : FI (fun y => y = a ∨ y = Y) M M12 := (f4.mono (fun _ y => Or.inr y)).trans (f12.mono (fun _ y => Or.inl y))
  have b7 : v7 = 0 ∨ v7 = 1 := by rw [e7]; split <;> omega
  have y12 : mI M12 Y 0 = x := by rw [f12.2.2.2.2.2.2 Y (fun u => ne u.symm), mI_ui Y 0 e4, if_pos ⟨rfl, rfl⟩]
  have a12 : mI M12 a 1 = v7 := by rw [mI_ui a 1 e12, if_pos ⟨rfl, rfl⟩]
  refine ⟨by rw [e12]; exact mOk_UI (by rw [e4]; exact mOk_UI hO ⟨by omega, by omega⟩) (m_b32 b7), ff, ?_⟩
  by_cases y : x = 0
  · rw [if_pos y] at e7
    exact ⟨0, by omega, ⟨h.fi ff, by rw [a12, e7]; rfl, by omega, fun j hj => absurd hj (by omega), fun u => absurd u (by omega)⟩, y.symm⟩
  · rw [if_neg y] at e7
    refine ⟨1, Nat.le_refl _, ⟨h.fi ff, by rw [a12, e7]; rfl, by omega, fun j hj => ?_, fun _ => by rw [show 1 - 1 = 0 by omega, y12]; exact y⟩, ?_⟩
    · rw [show j = 0 by omega, y12]
      exact hx
    · show 0 + mI M12 Y 0 * 2 ^ (30 * 0) = x
      rw [y12]
      simp
end NAA
end
section
/-! The class's natural numbers: questions. -/
section NAB
variable {G : mG} {d a b Y Cy s n X Cx r t : Nat} {M M' M1 M2 : mM}
theorem s_Na_isOne (hO : mOk M) (h : Nt M a Y Cy s) : Ci G y_Na_isOne d [vr a] M (fun x M' => M' = M ∧ (x = 0 ∨ x = 1) ∧ (x ≠ 0 → dn (mI M Y) s = 1)) := by
  obtain ⟨⟨k0, r0, kY, nY, ⟨c1, c2⟩, -⟩, sz1, -⟩ := h
  refine k_Na_isOne hO ?_
  rw [r0, nY]
  refine ⟨k0, fun _ => ⟨kY, ⟨by omega, by omega⟩⟩, fun v6 e6 => ⟨rfl, ?_⟩⟩
  rw [e6]
  split
  · rename_i hc
    refine ⟨Or.inr rfl, fun _ => ?_⟩
    obtain ⟨h1, h2⟩ := hc
    have s1 : s = 1 := by
      rw [sz1] at h1
      omega
    rw [s1]
    show 0 + mI M Y 0 * 2 ^ (30 * 0) = 1
    rw [h2]
    decide
  · exact ⟨Or.inl rfl, fun u => absurd rfl u⟩
end NAB
end
section
/-! Limbs of thirty bits: longs' bits, values, and Knuth's guess. -/
theorem j_and (x : Int) : andL x 1073741823 = x % 1073741824 := by
  unfold andL
  show (BitVec.ofInt 64 x &&& 1073741823#64).toInt = _
  have h0 : (BitVec.ofInt 64 x &&& 1073741823#64).toNat = (BitVec.ofInt 64 x).toNat % 1073741824 := by
    rw [BitVec.toNat_and]
    exact Nat.and_two_pow_sub_one_eq_mod _ 30
  have h1 : (BitVec.ofInt 64 x).toNat = (x % 18446744073709551616).toNat := by
    rw [BitVec.toNat_ofInt]; rfl
  rw [BitVec.toInt_eq_toNat_cond, h0, h1]
  have h3 : ((x % 18446744073709551616).toNat : Int) = x % 18446744073709551616 := Int.toNat_of_nonneg (Int.emod_nonneg _ (by decide))
  split <;> omega
theorem j_shr {x : Int} (h : i64 x) : shrL x 30 = x / 1073741824 := by
  unfold shrL
  show (BitVec.sshiftRight (BitVec.ofInt 64 x) _).toInt = _
  rw [BitVec.toInt_sshiftRight]
  have := i64_toInt h
  have e : (BitVec.ofInt 64 x).toInt = x := this
  rw [e]
  show x >>> 30 = _
  rw [Int.shiftRight_eq_div_pow]
  rfl
theorem j_ushr {x : Int} (h0 : 0 ≤ x) (h : x < 9223372036854775808) : ushrL x 30 = x / 1073741824 := by
  unfold ushrL
  show (BitVec.ushiftRight (BitVec.ofInt 64 x) 30).toInt = _
  have h1 : (BitVec.ofInt 64 x).toNat = x.toNat := by
    rw [BitVec.toNat_ofInt]
    show (x % 18446744073709551616).toNat = _
    rw [Int.emod_eq_of_lt h0 (by omega)]
  have h2 : (BitVec.ushiftRight (BitVec.ofInt 64 x) 30).toNat = x.toNat / 1073741824 := by
    show ((BitVec.ofInt 64 x) >>> 30).toNat = _
    rw [BitVec.toNat_ushiftRight, h1, Nat.shiftRight_eq_div_pow]
  rw [BitVec.toInt_eq_toNat_cond, h2]
  have h3 : ((x.toNat : Nat) : Int) = x := Int.toNat_of_nonneg h0
  split <;> omega
theorem j_shl {x : Int} (h : -8589934592 ≤ x ∧ x < 8589934592) : shlL x 30 = x * 1073741824 := by
  unfold shlL
  show ((BitVec.ofInt 64 x) <<< 30).toInt = _
  have e : (BitVec.ofInt 64 x) <<< 30 = BitVec.ofInt 64 (x * 1073741824) := by
    apply BitVec.eq_of_toNat_eq
    rw [BitVec.toNat_shiftLeft, BitVec.toNat_ofInt, BitVec.toNat_ofInt, Nat.shiftLeft_eq]
    show (x % 18446744073709551616).toNat * 1073741824 % 18446744073709551616 = ((x * 1073741824) % 18446744073709551616).toNat
    omega
  rw [e]
  exact i64_toInt (x := x * 1073741824) (by unfold i64; omega)
theorem j_c0 {x : Int} : cmpL x 0 = 0 ↔ x = 0 := by
  unfold cmpL; split
  · constructor <;> intro h <;> omega
  · split <;> constructor <;> intro h <;> first | omega | contradiction
theorem j_cn {x : Int} : cmpL x 0 < 0 ↔ x < 0 := by
  unfold cmpL; split
  · constructor <;> intro h <;> omega
  · split <;> constructor <;> intro h <;> omega
theorem j_cle {x z : Int} : cmpL x z ≤ 0 ↔ x ≤ z := by
  unfold cmpL; split
  · constructor <;> intro h <;> omega
  · split <;> constructor <;> intro h <;> omega
/-- powers of two as shifts of 1 -/
theorem j_sh1 : ∀ k : Nat, k ≤ 30 → shlI 1 (k : Int) = 2 ^ k := by
  have : ∀ k : Nat, k ≤ 30 → shlI 1 (k : Int) = ((2 ^ k : Nat) : Int) := by decide
  intro k hk
  rw [this k hk]
  norm_cast
section KNU
variable {P U V two u2 Ul v1 v2 Vl g : Int}
theorem kn_le {a b c : Int} (h : a ≤ b) (hc : 0 ≤ c) : a * c ≤ b * c := Int.mul_le_mul_of_nonneg_right h hc
/-- the guess is not too small -/
theorem kn_up (hP : 0 < P) (eU : U = (two * 1073741824 + u2) * P + Ul) (eV : V = (v1 * 1073741824 + v2) * P + Vl) (hl : Ul < P) (h2 : u2 < 1073741824) (k2 : 0 ≤ v2) (kl : 0 ≤ Vl) (hUV : U < V * 1073741824) (hg : 0 ≤ g) (h : g = 1073741823 ∨ two < (g + 1) * v1) : U < (g + 1) * V := by
  rcases h with h | h
  · rw [h]; omega
  · have a1 : (two + 1) * (1073741824 * P) ≤ ((g + 1) * v1) * (1073741824 * P) := kn_le (by omega) (by omega)
    have a2 : (u2 + 1) * P ≤ 1073741824 * P := kn_le (by omega) (by omega)
    have a3 : 0 ≤ (g + 1) * v2 * P := Int.mul_nonneg (Int.mul_nonneg (by omega) k2) (by omega)
    have a4 : 0 ≤ (g + 1) * Vl := Int.mul_nonneg (by omega) kl
    rw [eU, eV]
    clear eU eV hUV k2 kl h h2 hg
    grind
/-- and at most two too large -/
theorem kn_dn (hP : 0 < P) (eU : U = (two * 1073741824 + u2) * P + Ul) (eV : V = (v1 * 1073741824 + v2) * P + Vl) (hl : 0 ≤ Ul) (h2 : 0 ≤ u2) (k2 : 0 ≤ v2 ∧ v2 < 1073741824) (kl : 0 ≤ Vl ∧ Vl < P) (hv : 1073741824 ≤ 2 * v1) (hg : 0 ≤ g ∧ g < 1073741824) (h : g * v1 ≤ two) : (g - 2) * V ≤ U := by
  have a1 : (g * v1) * (1073741824 * P) ≤ two * (1073741824 * P) := kn_le h (by omega)
  have a2 : (v2 + 1) * P ≤ 1073741824 * P := kn_le (by omega) (by omega)
  have a3 : g * (v2 * P + Vl) ≤ g * (1073741824 * P) := Int.mul_le_mul_of_nonneg_left (by rw [Int.add_mul] at a2; omega) hg.1
  have a4 : g * (1073741824 * P) ≤ (2 * v1) * (1073741824 * P) := kn_le (by omega) (by omega)
  have a5 : 0 ≤ u2 * P := Int.mul_nonneg h2 (by omega)
  have a6 : 0 ≤ v2 * P := Int.mul_nonneg k2.1 (by omega)
  obtain ⟨k21, k22⟩ := k2
  obtain ⟨kl1, kl2⟩ := kl
  rw [eU, eV]
  clear eU eV h hg hv h2 a2 k21 k22
  grind
/-- a guess that the third limb tells to be too large -/
theorem kn_dec (hP : 0 < P) (eU : U = (two * 1073741824 + u2) * P + Ul) (eV : V = (v1 * 1073741824 + v2) * P + Vl) (hl : Ul < P) (kl : 0 ≤ Vl) (hg : 0 ≤ g) (h : (two - g * v1) * 1073741824 + u2 < g * v2) : U < (g - 1 + 1) * V := by
  have a1 : ((two - g * v1) * 1073741824 + u2 + 1) * P ≤ (g * v2) * P := kn_le (by omega) (by omega)
  have a4 : 0 ≤ g * Vl := Int.mul_nonneg hg kl
  rw [eU, eV]
  clear eU eV h hg
  grind
/-- a guess that the third limb lets pass is at most one too large -/
theorem kn_one (hP : 0 < P) (eU : U = (two * 1073741824 + u2) * P + Ul) (eV : V = (v1 * 1073741824 + v2) * P + Vl) (hl : 0 ≤ Ul) (k2 : 0 ≤ v2) (kl : 0 ≤ Vl ∧ Vl < P) (hv : 1 ≤ v1) (hg : 0 ≤ g ∧ g < 1073741824) (h : g * v2 ≤ (two - g * v1) * 1073741824 + u2) : (g - 1) * V ≤ U := by
  have a1 : (g * v2) * P ≤ ((two - g * v1) * 1073741824 + u2) * P := kn_le (by omega) (by omega)
  have a3 : g * Vl ≤ g * P := Int.mul_le_mul_of_nonneg_left (by omega) hg.1
  have a4 : g * P ≤ 1073741824 * P := kn_le (by omega) (by omega)
  have a5 : 1 * (1073741824 * P) ≤ v1 * (1073741824 * P) := kn_le hv (by omega)
  have a6 : 0 ≤ v2 * P := Int.mul_nonneg k2 (by omega)
  obtain ⟨kl1, kl2⟩ := kl
  rw [eU, eV]
  clear eU eV h hg hv k2
  grind
/-- what is left by the guess -/
theorem kn_rest (hP : 0 < P) (eU : U = (two * 1073741824 + u2) * P + Ul) (eV : V = (v1 * 1073741824 + v2) * P + Vl) (hl : 0 ≤ Ul) (h2 : 0 ≤ u2) (k2 : v2 < 1073741824) (kl : Vl < P) (hv : v1 < 1073741824) (hUV : U < V * 1073741824) (h1 : g * v1 ≤ two) (h : g = 1073741823 ∨ two < (g + 1) * v1) : 0 ≤ two - g * v1 ∧ two - g * v1 < 2147483648 := by
  refine ⟨by omega, ?_⟩
  rcases h with h | h
  · have a2 : (v2 + 1) * P ≤ 1073741824 * P := kn_le (by omega) (by omega)
    have a5 : 0 ≤ u2 * P := Int.mul_nonneg h2 (by omega)
    have a6 : two * (1073741824 * P) < ((v1 + 1) * 1073741824) * (1073741824 * P) := by
      clear h h1
      grind
    have a7 : two < (v1 + 1) * 1073741824 := Int.lt_of_mul_lt_mul_right a6 (by omega)
    rw [h]
    omega
  · rw [Int.add_mul, Int.one_mul] at h
    omega
/-- the true quotient -/
theorem kn_q {R : Int} (h1 : U < (g + 1) * V) (h0 : (g - 1) * V ≤ U) (hR : U - g * V = R) : (0 ≤ R → R < V) ∧ (R < 0 → 0 ≤ R + V) := by
  rw [Int.add_mul, Int.one_mul] at h1
  rw [Int.sub_mul, Int.one_mul] at h0
  omega
end KNU
theorem p30 (k : Nat) : (2 : Int) ^ (30 * (k + 1)) = 2 ^ (30 * k) * 1073741824 := by
  rw [show 30 * (k + 1) = 30 * k + 30 by omega, Int.pow_add]
  rfl
theorem p30p (k : Nat) : (0 : Int) < 2 ^ (30 * k) := Int.pow_pos (by decide)
theorem p30a (m k : Nat) : (2 : Int) ^ (30 * (m + k)) = 2 ^ (30 * m) * 2 ^ (30 * k) := by
  rw [show 30 * (m + k) = 30 * m + 30 * k by omega, Int.pow_add]
theorem p30m {m k : Nat} (h : m ≤ k) : (2 : Int) ^ (30 * m) ≤ 2 ^ (30 * k) := by
  obtain ⟨t, rfl⟩ := Nat.le.dest h
  rw [p30a]
  have h1 : (1 : Int) ≤ 2 ^ (30 * t) := p30p t
  have h2 := Int.mul_le_mul_of_nonneg_left h1 (Int.le_of_lt (p30p m))
  omega
theorem dn_s (f : Nat → Int) (k : Nat) : dn f (k + 1) = dn f k + f k * 2 ^ (30 * k) := rfl
/-- limbs -/
def lms (f : Nat → Int) (n : Nat) : Prop := ∀ j, j < n → 0 ≤ f j ∧ f j < 1073741824
theorem dn_nn {f : Nat → Int} : ∀ {n : Nat}, lms f n → 0 ≤ dn f n
  | 0, _ => Int.le_refl _
  | n + 1, h => by
    rw [dn_s]
    have h1 := dn_nn (n := n) (fun j hj => h j (by omega))
    have h2 := Int.mul_nonneg (h n (by omega)).1 (Int.le_of_lt (p30p n))
    omega
theorem dn_lt {f : Nat → Int} : ∀ {n : Nat}, lms f n → dn f n < 2 ^ (30 * n)
  | 0, _ => (by decide : (0 : Int) < 2 ^ (30 * 0))
  | n + 1, h => by
    rw [dn_s, p30]
    have h1 := dn_lt (n := n) (fun j hj => h j (by omega))
    have h2 := Int.mul_le_mul_of_nonneg_right (c := 2 ^ (30 * n)) (show f n ≤ 1073741823 by have := h n (by omega); omega) (Int.le_of_lt (p30p n))
    omega
theorem dn_ge {f : Nat → Int} {n : Nat} (h : lms f (n + 1)) (h0 : f n ≠ 0) : 2 ^ (30 * n) ≤ dn f (n + 1) := by
  rw [dn_s]
  have h1 := dn_nn (n := n) (fun j hj => h j (by omega))
  have h2 := Int.mul_le_mul_of_nonneg_right (c := 2 ^ (30 * n)) (show 1 ≤ f n by have := h n (by omega); omega) (Int.le_of_lt (p30p n))
  omega
/-- a number of s limbs without its highest is less -/
theorem dn_top {f : Nat → Int} {n : Nat} (h : lms f (n + 1)) (h0 : 2 ^ (30 * n) ≤ dn f (n + 1)) : f n ≠ 0 := by
  intro z
  rw [dn_s, z] at h0
  have h1 := dn_lt (n := n) (fun j hj => h j (by omega))
  omega
theorem dn_up {f g : Nat → Int} {i : Nat} : ∀ {n : Nat}, i < n → (∀ j, j < n → j ≠ i → g j = f j) → dn g n = dn f n + (g i - f i) * 2 ^ (30 * i)
  | 0, hi, _ => absurd hi (by omega)
  | n + 1, hi, h => by
    rw [dn_s, dn_s]
    by_cases z : i = n
    · subst z
      rw [dn_cg i (fun j hj => h j (by omega) (by omega)), Int.sub_mul]
      omega
    · rw [dn_up (n := n) (by omega) (fun j hj hj' => h j (by omega) hj'), h n (by omega) (fun u => z u.symm)]
      omega
theorem dn_z {f : Nat → Int} {s : Nat} : ∀ {n : Nat}, s ≤ n → (∀ j, s ≤ j → j < n → f j = 0) → dn f n = dn f s
  | 0, hs, _ => by rw [show s = 0 by omega]
  | n + 1, hs, h => by
    by_cases z : s = n + 1
    · rw [z]
    · rw [dn_s, h n (by omega) (by omega), dn_z (n := n) (by omega) (fun j h1 h2 => h j h1 (by omega))]
      omega
theorem dn_sp (f : Nat → Int) (m : Nat) : ∀ n, dn f (m + n) = dn f m + 2 ^ (30 * m) * dn (fun j => f (m + j)) n
  | 0 => by show dn f m = dn f m + 2 ^ (30 * m) * 0; omega
  | n + 1 => by
    show dn f (m + n) + f (m + n) * 2 ^ (30 * (m + n)) = dn f m + 2 ^ (30 * m) * (dn (fun j => f (m + j)) n + f (m + n) * 2 ^ (30 * n))
    rw [dn_sp f m n, p30a, Int.mul_add, Int.add_assoc, Int.mul_left_comm]
/-- the lowest limb apart -/
theorem dn_lo (f : Nat → Int) (n : Nat) : dn f (n + 1) = f 0 + 1073741824 * dn (fun j => f (1 + j)) n := by
  rw [show n + 1 = 1 + n by omega, dn_sp]
  show 0 + f 0 * 2 ^ (30 * 0) + _ = _
  rw [show (2 : Int) ^ (30 * 0) = 1 by decide, show (2 : Int) ^ (30 * 1) = 1073741824 by decide]
  omega
/-- sizes by values -/
theorem dn_sz {f : Nat → Int} {s n : Nat} (h : lms f s) (h0 : 0 < s → f (s - 1) ≠ 0) (hv : dn f s < 2 ^ (30 * n)) : s ≤ n := by
  refine Classical.byContradiction (fun u => ?_)
  obtain ⟨t, rfl⟩ : ∃ t, s = t + 1 := ⟨s - 1, by omega⟩
  have h1 := dn_ge h (h0 (by omega))
  have h2 := p30m (m := n) (k := t) (by omega)
  omega
/-- one step of a carry -/
theorem c_st {D D' l x : Int} {i : Nat} (e : D' = D + (x % 1073741824 - l) * 2 ^ (30 * i)) : D' + x / 1073741824 * 2 ^ (30 * (i + 1)) = D + (x - l) * 2 ^ (30 * i) := by
  rw [e, p30]
  have h := Int.emod_add_mul_ediv x 1073741824
  generalize (2 : Int) ^ (30 * i) = p at *
  have h2 : x * p = (x % 1073741824) * p + (x / 1073741824) * (p * 1073741824) := by
    conv => lhs; rw [← h]
    rw [Int.add_mul, Int.mul_comm 1073741824, Int.mul_assoc, Int.mul_comm 1073741824]
  rw [Int.sub_mul, Int.sub_mul, h2]
  omega
theorem al_mul {D1 D0 c f l p e : Int} (h : D1 + c * p = D0 + (f - 1) * e) : D1 + ((c + f * l) - l) * p = D0 + (f - 1) * (e + l * p) := by grind
theorem al_add {D1 D0 c f l p e x : Int} (h : D1 + c * p = D0 + f * e) : D1 + ((c + (l + f * x)) - l) * p = D0 + f * (e + x * p) := by grind
theorem al_car {D1 T c l p : Int} (h : D1 + c * p = T) : D1 + ((c + l) - l) * p = T := by grind
theorem al_prod {D1 D0 c f l pi pj e x : Int} (h : D1 + c * (pi * pj) = D0 + f * (pi * e)) : D1 + ((c + (l + f * x)) - l) * (pi * pj) = D0 + f * (pi * (e + x * pj)) := by grind
theorem al_div {N D e dv r p l q : Int} (h : N = dv * (D - (e + l * p)) + r * (p * 1073741824) + (e + l * p)) : N = dv * (D + (q - l) * p - e) + ((r * 1073741824 + l) - dv * q) * p + e := by grind
theorem al_sub {D1 D0 c f l p e x : Int} (h : D1 + c * p = D0 - f * e) : D1 + ((c + (l - f * x)) - l) * p = D0 - f * (e + x * p) := by grind
theorem al_cmb {D1 D0 c f g u v p e k : Int} (h : D1 + c * p = D0 - e + f * e + g * k) : D1 + ((c + (f * u + g * v)) - u) * p = D0 - (e + u * p) + f * (e + u * p) + g * (k + v * p) := by grind
theorem al_cmb2 {D1 D0 c f g u v p e k : Int} (h : D1 + c * p = D0 - k + f * e + g * k) : D1 + ((c + (f * u + g * v)) - v) * p = D0 - (k + v * p) + f * (e + u * p) + g * (k + v * p) := by grind
end
section
/-! The class's natural numbers: sums and multiples. -/
section NAC
variable {G : mG} {d a b Y Cy s n X Cx w : Nat} {M M' M1 M2 M3 : mM} {v : Int}
theorem i_ush {x : Int} (k : Nat) (hk : k < 32) (h0 : 0 ≤ x) (h : i32 x) : ushrI x k = x / 2 ^ k := by
  have e : ∀ k, k < 32 → ((Int32.ofInt ((k : Nat) : Int)).toUInt32 &&& Int32.toUInt32 31).toBitVec = BitVec.ofNat 32 k := by decide
  unfold ushrI
  show (BitVec.ofInt 32 x >>> (((Int32.ofInt ((k : Nat) : Int)).toUInt32 &&& Int32.toUInt32 31).toBitVec % 32#32)).toInt = _
  rw [e k hk]
  have e2 : ∀ k, k < 32 → (BitVec.ofNat 32 k % 32#32).toNat = k := by decide
  have h1 : (BitVec.ofInt 32 x).toNat = x.toNat := by
    rw [BitVec.toNat_ofInt]
    show (x % 4294967296).toNat = _
    rw [Int.emod_eq_of_lt h0 (by unfold i32 at h; omega)]
  have h2 : (BitVec.ofInt 32 x >>> (BitVec.ofNat 32 k % 32#32)).toNat = x.toNat / 2 ^ k := by
    rw [BitVec.ushiftRight_eq', e2 k hk, BitVec.toNat_ushiftRight, h1, Nat.shiftRight_eq_div_pow]
  rw [BitVec.toInt_eq_toNat_cond, h2]
  have h3 : ((x.toNat : Nat) : Int) = x := Int.toNat_of_nonneg h0
  have h4 : x.toNat / 2 ^ k ≤ x.toNat := Nat.div_le_self _ _
  have h5 : x.toNat < 2147483648 := by unfold i32 at h; omega
  rw [if_pos (by omega), Int.natCast_ediv, h3]
  norm_cast
theorem s_nlz {x : Int} (h0 : 0 < x) (h : i32 x) (hO : mOk M) : Ci G y_JI_nlz d [vi x] M (fun r M' => M' = M ∧ ∃ k : Nat, r = ((k : Nat) : Int) ∧ k ≤ 31 ∧ 2 ^ (31 - k) ≤ x ∧ x < 2 ^ (32 - k)) := by
  have us : ∀ (y : Int) (k : Nat), k < 32 → 0 ≤ y → i32 y → ushrI y (k : Int) = y / 2 ^ k := fun y k hk h0 h => i_ush k hk h0 h
  unfold i32 at h
  refine k_JI_nlz hO h ⟨fun _ v5 e5 v6 e6 v12 e12 v13 e13 v19 e19 v20 e20 v26 e26 v27 e27 => ⟨rfl, ?_⟩, fun y => absurd h0 y⟩
  have a1 : (x < 65536 ∧ v5 = x ∧ v6 = 31) ∨ (65536 ≤ x ∧ v5 = x / 65536 ∧ v6 = 15) := by
    by_cases c : x < 65536
    · rw [if_pos c] at e5 e6; exact Or.inl ⟨c, e5, e6⟩
    · rw [if_neg c] at e5 e6
      rw [show ushrI x 16 = x / 65536 from us x 16 (by decide) (by omega) h] at e5
      exact Or.inr ⟨by omega, e5, e6⟩
  have b5 : 0 < v5 ∧ v5 < 65536 := by omega
  have a2 : (v5 < 256 ∧ v12 = v5 ∧ v13 = v6) ∨ (256 ≤ v5 ∧ v12 = v5 / 256 ∧ v13 = v6 - 8) := by
    by_cases c : v5 < 256
    · rw [if_pos c] at e12 e13; exact Or.inl ⟨c, e12, e13⟩
    · rw [if_neg c] at e12 e13
      rw [show ushrI v5 8 = v5 / 256 from us v5 8 (by decide) (by omega) ⟨by omega, by omega⟩] at e12
      exact Or.inr ⟨by omega, e12, e13⟩
  have b12 : 0 < v12 ∧ v12 < 256 := by omega
  have a3 : (v12 < 16 ∧ v19 = v12 ∧ v20 = v13) ∨ (16 ≤ v12 ∧ v19 = v12 / 16 ∧ v20 = v13 - 4) := by
    by_cases c : v12 < 16
    · rw [if_pos c] at e19 e20; exact Or.inl ⟨c, e19, e20⟩
    · rw [if_neg c] at e19 e20
      rw [show ushrI v12 4 = v12 / 16 from us v12 4 (by decide) (by omega) ⟨by omega, by omega⟩] at e19
      exact Or.inr ⟨by omega, e19, e20⟩
  have b19 : 0 < v19 ∧ v19 < 16 := by omega
  have a4 : (v19 < 4 ∧ v26 = v19 ∧ v27 = v20) ∨ (4 ≤ v19 ∧ v26 = v19 / 4 ∧ v27 = v20 - 2) := by
    by_cases c : v19 < 4
    · rw [if_pos c] at e26 e27; exact Or.inl ⟨c, e26, e27⟩
    · rw [if_neg c] at e26 e27
      rw [show ushrI v19 2 = v19 / 4 from us v19 2 (by decide) (by omega) ⟨by omega, by omega⟩] at e26
      exact Or.inr ⟨by omega, e26, e27⟩
  have b26 : 0 < v26 ∧ v26 < 4 := by omega
  have e1 : ushrI v26 1 = v26 / 2 := us v26 1 (by decide) (by omega) ⟨by omega, by omega⟩
  rw [e1]
  clear e5 e6 e12 e13 e19 e20 e26 e27 us e1
  have fin : ∀ (k : Nat) (p q : Int), k ≤ 31 → v27 - v26 / 2 = (k : Int) → p = 2 ^ (31 - k) → q = 2 ^ (32 - k) → (p ≤ x ∧ x < q) → ∃ k : Nat, v27 - v26 / 2 = ((k : Nat) : Int) ∧ k ≤ 31 ∧ 2 ^ (31 - k) ≤ x ∧ x < 2 ^ (32 - k) := fun k p q hk e ep eq u => ⟨k, e, hk, by rw [← ep]; exact u.1, by rw [← eq]; exact u.2⟩
  rcases a1 with ⟨c1, q1, r1⟩ | ⟨c1, q1, r1⟩ <;> rcases a2 with ⟨c2, q2, r2⟩ | ⟨c2, q2, r2⟩ <;> rcases a3 with ⟨c3, q3, r3⟩ | ⟨c3, q3, r3⟩ <;> rcases a4 with ⟨c4, q4, r4⟩ | ⟨c4, q4, r4⟩ <;> rcases (show v26 = 1 ∨ 2 ≤ v26 by omega) with c5 | c5
  · exact fin 31 1 2 (by decide) (by omega) (by decide) (by decide) ⟨by omega, by omega⟩
  · exact fin 30 2 4 (by decide) (by omega) (by decide) (by decide) ⟨by omega, by omega⟩
  · exact fin 29 4 8 (by decide) (by omega) (by decide) (by decide) ⟨by omega, by omega⟩
  · exact fin 28 8 16 (by decide) (by omega) (by decide) (by decide) ⟨by omega, by omega⟩
  · exact fin 27 16 32 (by decide) (by omega) (by decide) (by decide) ⟨by omega, by omega⟩
  · exact fin 26 32 64 (by decide) (by omega) (by decide) (by decide) ⟨by omega, by omega⟩
  · exact fin 25 64 128 (by decide) (by omega) (by decide) (by decide) ⟨by omega, by omega⟩
  · exact fin 24 128 256 (by decide) (by omega) (by decide) (by decide) ⟨by omega, by omega⟩
  · exact fin 23 256 512 (by decide) (by omega) (by decide) (by decide) ⟨by omega, by omega⟩
  · exact fin 22 512 1024 (by decide) (by omega) (by decide) (by decide) ⟨by omega, by omega⟩
  · exact fin 21 1024 2048 (by decide) (by omega) (by decide) (by decide) ⟨by omega, by omega⟩
  · exact fin 20 2048 4096 (by decide) (by omega) (by decide) (by decide) ⟨by omega, by omega⟩
  · exact fin 19 4096 8192 (by decide) (by omega) (by decide) (by decide) ⟨by omega, by omega⟩
  · exact fin 18 8192 16384 (by decide) (by omega) (by decide) (by decide) ⟨by omega, by omega⟩
  · exact fin 17 16384 32768 (by decide) (by omega) (by decide) (by decide) ⟨by omega, by omega⟩
  · exact fin 16 32768 65536 (by decide) (by omega) (by decide) (by decide) ⟨by omega, by omega⟩
  · exact fin 15 65536 131072 (by decide) (by omega) (by decide) (by decide) ⟨by omega, by omega⟩
  · exact fin 14 131072 262144 (by decide) (by omega) (by decide) (by decide) ⟨by omega, by omega⟩
  · exact fin 13 262144 524288 (by decide) (by omega) (by decide) (by decide) ⟨by omega, by omega⟩
  · exact fin 12 524288 1048576 (by decide) (by omega) (by decide) (by decide) ⟨by omega, by omega⟩
  · exact fin 11 1048576 2097152 (by decide) (by omega) (by decide) (by decide) ⟨by omega, by omega⟩
  · exact fin 10 2097152 4194304 (by decide) (by omega) (by decide) (by decide) ⟨by omega, by omega⟩
  · exact fin 9 4194304 8388608 (by decide) (by omega) (by decide) (by decide) ⟨by omega, by omega⟩
  · exact fin 8 8388608 16777216 (by decide) (by omega) (by decide) (by decide) ⟨by omega, by omega⟩
  · exact fin 7 16777216 33554432 (by decide) (by omega) (by decide) (by decide) ⟨by omega, by omega⟩
  · exact fin 6 33554432 67108864 (by decide) (by omega) (by decide) (by decide) ⟨by omega, by omega⟩
  · exact fin 5 67108864 134217728 (by decide) (by omega) (by decide) (by decide) ⟨by omega, by omega⟩
  · exact fin 4 134217728 268435456 (by decide) (by omega) (by decide) (by decide) ⟨by omega, by omega⟩
  · exact fin 3 268435456 536870912 (by decide) (by omega) (by decide) (by decide) ⟨by omega, by omega⟩
  · exact fin 2 536870912 1073741824 (by decide) (by omega) (by decide) (by decide) ⟨by omega, by omega⟩
  · exact fin 1 1073741824 2147483648 (by decide) (by omega) (by decide) (by decide) ⟨by omega, by omega⟩
  · exact fin 0 2147483648 4294967296 (by decide) (by omega) (by decide) (by decide) ⟨by omega, by omega⟩
theorem s_JA_fillR {p q : Nat} (hO : mOk M) (hK : mK M a = 30) (hp : p ≤ q) (hq : q ≤ mN M a) (hN : mN M a ≤ 100000) (hv : i32 v) : Cv G y_JA_fillR (d + 2) [vr a, vi p, vi q, vi v] M (fun M' => mOk M' ∧ FI (fun x => x = a) M M' ∧ ∀ i, mI M' a i = if p ≤ i ∧ i < q then v else mI M a i) := by
  refine k_JA_fillR hO ⟨by omega, by omega⟩ ⟨by omega, by omega⟩ hv ⟨hK, ?_⟩
  refine k_JA_rangeCheck hO ⟨by omega, by omega⟩ ⟨by omega, by omega⟩ ⟨by omega, by omega⟩ ⟨fun _ => ⟨fun _ => ⟨fun _ => ⟨hO, ?_⟩, fun y => y (by omega)⟩, fun y => y (by omega)⟩, fun y => y (by omega)⟩
  suffices HH : ∀ (t i : Nat) (M1 : mM), q ≤ i + t → p ≤ i → i ≤ q → mOk M1 → FI (fun x => x = a) M M1 → (∀ j, mI M1 a j = if p ≤ j ∧ j < i then v else mI M a j) → h_JA_fillR_10 G (d + 1) a q v i M1 (fun M' => mOk M' ∧ FI (fun x => x = a) M M' ∧ ∀ i, mI M' a i = if p ≤ i ∧ i < q then v else mI M a i) from HH q p M (by omega) (by omega) hp hO FI.refl (fun j => by rw [if_neg (by omega)])
  intro t
  induction t with
  | zero =>
    intro i M1 h1 h2 h3 o f hj
    have e : i = q := by omega
    subst e
    exact k_JA_fillR_10 o ⟨by omega, by omega⟩ hv ⟨by omega, by omega⟩ ⟨fun _ => ⟨o, f, hj⟩, fun y => absurd y (by omega)⟩
  | succ t ih =>
    intro i M1 h1 h2 h3 o f hj
    refine k_JA_fillR_10 o ⟨by omega, by omega⟩ hv ⟨by omega, by omega⟩ ⟨fun y => ?_, fun y => ?_⟩
    · have e : i = q := by omega
      subst e
      exact ⟨o, f, hj⟩
    · rw [f.1, f.2.1, Int.toNat_natCast]
      refine ⟨hK, by omega, fun M8 e8 => ?_⟩
      rw [show ((i : Int) + 1) = ((i + 1 : Nat) : Int) by omega]
      refine ih (i + 1) M8 (by omega) (by omega) (by omega) (by rw [e8]; exact mOk_UI o hv) (f.trans (by rw [e8]; exact FI.ui rfl)) (fun j => ?_)
      rw [mI_ui a j e8, hj j]
      by_cases y1 : j = i
      · rw [if_pos ⟨rfl, y1⟩, if_pos (by omega)]
      · rw [if_neg (fun u => y1 u.2)]
        by_cases y2 : p ≤ j ∧ j < i
        · rw [if_pos y2, if_pos (by omega)]
        · rw [if_neg y2, if_neg (by omega)]
/-- a number becomes v; it wanted at most w limbs -/
def nst (M : mM) (a Y Cy w : Nat) (v : Int) (M' : mM) : Prop := mOk M' ∧ ∃ Y' Cy' s', Nt M' a Y' Cy' s' ∧ dn (mI M' Y') s' = v ∧ FA (fun x => x = a ∨ x = Y) (fun x => x = a) M M' ∧ ((Y' = Y ∧ Cy' = Cy ∧ mZ M' = mZ M ∧ mS M' = mS M) ∨ (Y' = mZ M ∧ Cy' ≤ 2 * w ∧ 2 * Cy ≤ Cy' ∧ mZ M' = mZ M + 1 ∧ mS M' = mS M + Cy'))
theorem nst_fi {s' : Nat} (h : Nt M' a Y Cy s') (o : mOk M') (f : FI (fun x => x = a ∨ x = Y) M M') (e : dn (mI M' Y) s' = v) : nst M a Y Cy w v M' :=
  ⟨o, Y, Cy, s', h, e, f.fa, Or.inl ⟨rfl, rfl, f.2.2.2.2.1, f.2.2.2.2.2.1⟩⟩
/-- what reserve left -/
def rsv (M : mM) (a Y Cy w Y' Cy' : Nat) (M' : mM) : Prop := (Y' = Y ∧ Cy' = Cy ∧ M' = M) ∨ (Y' = mZ M ∧ mZ M' = mZ M + 1 ∧ mS M' = mS M + Cy' ∧ 2 * Cy ≤ Cy' ∧ Cy' ≤ 2 * w)
theorem nst_rs {Y' Cy' s' : Nat} (F : FA (fun _ => False) (fun x => x = a) M M1) (g : rsv M a Y Cy w Y' Cy' M1) (f : FI (fun x => x = a ∨ x = Y') M1 M') (o : mOk M') (h : Nt M' a Y' Cy' s') (e : dn (mI M' Y') s' = v) : nst M a Y Cy w v M' := by
  refine ⟨o, Y', Cy', s', h, e, (F.mono (fun _ _ y => y.elim) (fun _ _ y => y)).trans2 (f.fa (R := fun _ => False)) ?_ (fun _ _ y => y.elim), ?_⟩
  · intro x hx u
    rcases u with u | u
    · exact Or.inl u
    · rcases g with ⟨g, -⟩ | ⟨g, -⟩
      · exact Or.inr (u.trans g)
      · omega
  · rcases g with ⟨g1, g2, g3⟩ | ⟨g1, g2, g3, g4, g5⟩
    · exact Or.inl ⟨g1, g2, by rw [f.2.2.2.2.1, g3], by rw [f.2.2.2.2.2.1, g3]⟩
    · exact Or.inr ⟨g1, g5, g4, by rw [f.2.2.2.2.1, g2], by rw [f.2.2.2.2.2.1, g3]⟩
theorem dn_ui {i : Nat} {x : Int} (hi : i < n) (e : M' = mUI M Y i x) : dn (mI M' Y) n = dn (mI M Y) n + (x - mI M Y i) * 2 ^ (30 * i) := by
  have h := dn_up (f := mI M Y) (g := mI M' Y) hi (fun j _ hj' => by rw [mI_ui Y j e, if_neg (fun u => hj' u.2)])
  rw [h, mI_ui Y i e, if_pos ⟨rfl, rfl⟩]
theorem lim_ui {i : Nat} {x : Int} (h : lim M Y n) (hx : 0 ≤ x ∧ x < 1073741824) (e : M' = mUI M Y i x) : lim M' Y n := fun j hj => by
  rw [mI_ui Y j e]
  by_cases c : Y = Y ∧ j = i
  · rw [if_pos c]; exact hx
  · rw [if_neg c]; exact h j hj
theorem m30 (x : Int) : 0 ≤ x % 1073741824 ∧ x % 1073741824 < 1073741824 := ⟨Int.emod_nonneg _ (by decide), Int.emod_lt_of_pos _ (by decide)⟩
theorem m30i (x : Int) : i32 (x % 1073741824) := ⟨by have := m30 x; omega, by have := m30 x; omega⟩
theorem l30i {x : Int} (h : 0 ≤ x ∧ x < 1073741824) : i32 x := ⟨by omega, by omega⟩
theorem s_Na_put0v {x : Int} (hx : 0 ≤ x ∧ x < 1073741824) (hO : mOk M) (h : Nl M a Y Cy) : Cv G y_Na_put0 d [vr a, vi x] M (nst M a Y Cy w x) := by
  refine (s_Na_put0 hx hO h).mono (fun M' q => ?_)
  obtain ⟨o, f, s, -, t, e⟩ := q
  exact nst_fi t o f e
theorem s_Na_putLong {x : Int} (hx : 0 ≤ x ∧ x < 1152921504606846976) (hO : mOk M) (h : Nl M a Y Cy) : Cv G y_Na_putLong (d + 1) [vr a, vl x] M (nst M a Y Cy w x) := by
  obtain ⟨k0, r0, kY, nY, ⟨c1, c2⟩, ne, z1, z2⟩ := id h
  refine k_Na_putLong hO ⟨by omega, by omega⟩ ?_
  rw [r0, nY, j_and, j_ushr hx.1 (by omega)]
  refine ⟨k0, kY, ⟨by omega, by omega⟩, m30i _, fun M5 e5 => ?_⟩
  have f5 : FI (fun y => y = Y) M M5 := by rw [e5]; exact FI.ui rfl
  rw [f5.1, f5.2.1, f5.2.2.1, r0, nY]
  refine ⟨kY, ⟨by omega, by omega⟩, ⟨by omega, by omega⟩, fun M10 e10 => ?_⟩
  have f10 : FI (fun y => y = Y) M5 M10 := by rw [e10]; exact FI.ui rfl
  have o10 : mOk M10 := by rw [e10]; exact mOk_UI (by rw [e5]; exact mOk_UI hO (m30i _)) ⟨by omega, by omega⟩
  have y0 : mI M10 Y 0 = x % 1073741824 := by rw [mI_ui Y 0 e10, if_neg (fun u => absurd u.2 (by decide)), mI_ui Y 0 e5, if_pos ⟨rfl, rfl⟩]
  have y1 : mI M10 Y 1 = x / 1073741824 := by rw [mI_ui Y 1 e10, if_pos ⟨rfl, rfl⟩]
  have ff := f5.trans f10
  refine (s_Na_trim (n := 2) o10 (h.fi ff) (by omega) (fun j hj => ?_)).mono (fun M12 q => ?_)
  · rcases (show j = 0 ∨ j = 1 by omega) with u | u
    · rw [u, y0]; exact m30 x
    · rw [u, y1]; omega
  · obtain ⟨o, f, -, s, -, t, e⟩ := q
    refine ⟨o, nst_fi t o ((ff.mono (fun _ u => Or.inr u)).trans (f.mono (fun _ u => Or.inl u))) ?_⟩
    rw [e]
    show 0 + mI M10 Y 0 * 2 ^ (30 * 0) + mI M10 Y 1 * 2 ^ (30 * 1) = x
    rw [y0, y1, show (2 : Int) ^ (30 * 0) = 1 by decide, show (2 : Int) ^ (30 * 1) = 1073741824 by decide]
    omega
end NAC
end
section
/-! The class's natural numbers: copies and multiples. -/
section NAD
variable {G : mG} {d a b Y Cy s n X Cx w : Nat} {M M' M1 M2 M3 : mM} {v : Int}
theorem cpy_fi (hO : mOk M) (e : M' = mCpy M X Y 0 0 n) : mOk M' ∧ FI (fun x => x = Y) M M' ∧ ∀ j, j < n → mI M' Y j = mI M X j := by
  have ii : ∀ q j, mI M' q j = if q = Y ∧ 0 ≤ j ∧ j < 0 + n then mI M X (0 + (j - 0)) else mI M q j := fun q j => by rw [e]; rfl
  refine ⟨by rw [e]; exact mOk_Cpy hO, ⟨by rw [e]; rfl, by rw [e]; rfl, by rw [e]; rfl, by rw [e]; rfl, by rw [e]; rfl, by rw [e]; rfl, fun x hx => ?_⟩, fun j hj => ?_⟩
  · funext j
    rw [ii x j, if_neg (fun u => hx u.1)]
  · rw [ii Y j, if_pos ⟨rfl, by omega, by omega⟩, show 0 + (j - 0) = j by omega]
/-- the copy's end -/
theorem s_p1e {M0 : mM} (hO : mOk M) (h : Nl M a Y Cy) (hn : n ≤ Cy) (g3 : lim M X n) (g4 : 0 < n → mI M X (n - 1) ≠ 0) (b1 : mI M b 1 = (n : Int)) (bY : b ≠ Y) (eM : M1 = mCpy M X Y 0 0 n) (e2 : M2 = mUI M1 a 1 (mI M1 b 1)) : mOk M2 ∧ FI (fun x => x = a ∨ x = Y) M M2 ∧ Nt M2 a Y Cy n ∧ dn (mI M2 Y) n = dn (mI M X) n := by
  obtain ⟨o1, f1, y1⟩ := cpy_fi hO eM
  have ne : a ≠ Y := h.2.2.2.2.2.1
  have cb : Cy ≤ 100000 := h.2.2.2.2.1.2
  rw [show mI M1 b 1 = (n : Int) by rw [f1.2.2.2.2.2.2 b bY]; exact b1] at e2
  have f2 : FI (fun x => x = a) M1 M2 := by rw [e2]; exact FI.ui rfl
  have ff : FI (fun x => x = a ∨ x = Y) M M2 := (f1.mono (fun _ u => Or.inr u)).trans (f2.mono (fun _ u => Or.inl u))
  have yy : ∀ j, j < n → mI M2 Y j = mI M X j := fun j hj => by rw [f2.2.2.2.2.2.2 Y (fun u => ne u.symm), y1 j hj]
  exact ⟨by rw [e2]; exact mOk_UI o1 ⟨by omega, by omega⟩, ff, ⟨h.fi ff, by rw [mI_ui a 1 e2, if_pos ⟨rfl, rfl⟩], hn, fun j hj => by rw [yy j hj]; exact g3 j hj, fun u => by rw [yy _ (by omega)]; exact g4 u⟩, dn_cg n yy⟩
theorem s_p1n {l : Nat} (hO : mOk M) (h : Nl M a Y Cy) (k : Nt M b X Cx n) (ab : a ≠ b) (hl : 4 ≤ l ∧ l ≤ 100000) (hn : n ≤ l) (l1 : 2 * Cy ≤ l) (l3 : l ≤ 2 * n) (e19 : M1 = mNew M 30 l l) : mK M1 a = 10 ∧ ∀ M22, M22 = mUR M1 a 0 (mZ M) → mK M22 b = 10 ∧ mK M22 (mR M22 b 0) = 30 ∧ mK M22 (mR M22 a 0) = 30 ∧ ((0 : Int) ≤ 0 ∧ (0 : Int) ≤ 0 ∧ (0 : Int) ≤ mI M22 b 1 ∧ 0 + (mI M22 b 1) ≤ (mN M22 (mR M22 b 0) : Int) ∧ 0 + (mI M22 b 1) ≤ (mN M22 (mR M22 a 0) : Int)) ∧ ∀ M28, M28 = mCpy M22 (mR M22 b 0) (mR M22 a 0) 0 0 (Int.toNat (mI M22 b 1)) → ∀ M30, M30 = mUI M28 a 1 (mI M28 b 1) → nst M a Y Cy n (dn (mI M X) n) M30 := by
  obtain ⟨k0, r0, kY, nY, ⟨c1, c2⟩, ne, z1, z2⟩ := id h
  obtain ⟨⟨q0, p0, kX, nX, ⟨e1, e2⟩, -, y1, y2⟩, g1, g2, g3, g4⟩ := id k
  have F19 : FA (fun _ => False) (fun x => x = a) M M1 := FA.new e19
  refine ⟨by rw [(F19.2 a z1).1]; exact k0, fun M22 e22 => ?_⟩
  have F22 : FA (fun _ => False) (fun x => x = a) M M22 := F19.trans (FA.ur rfl e22)
  have ra : mR M22 a 0 = mZ M := by rw [e22, mR_UR, if_pos ⟨rfl, rfl⟩]
  have rb : mR M22 b 0 = X := by rw [(F22.2 b y1).2.2.2.1 (fun u => ab u.symm)]; exact p0
  have KZ : mK M22 (mZ M) = 30 := by rw [e22]; show mK M1 (mZ M) = 30; rw [e19, mK_New, if_pos rfl]
  have NZ : mN M22 (mZ M) = l := by rw [e22]; show mN M1 (mZ M) = l; rw [e19, mN_New, if_pos rfl]
  have i1 : mI M22 b 1 = (n : Int) := by rw [(F22.2 b y1).2.2.2.2 (fun u => u)]; exact g1
  have iX : mI M22 X = mI M X := (F22.2 X y2).2.2.2.2 (fun u => u)
  have Z22 : mZ M22 = mZ M + 1 := by rw [e22]; show mZ M1 = _; rw [e19, mZ_New]
  have S22 : mS M22 = mS M + l := by rw [e22]; show mS M1 = _; rw [e19, mS_New]
  have K22a : mK M22 a = 10 := by rw [(F22.2 a z1).1]; exact k0
  have K22b : mK M22 b = 10 := by rw [(F22.2 b y1).1]; exact q0
  have K22X : mK M22 X = 30 := by rw [(F22.2 X y2).1]; exact kX
  have N22X : mN M22 X = Cx := by rw [(F22.2 X y2).2.1]; exact nX
  have o22 : mOk M22 := by rw [e22]; exact mOk_UR (by rw [e19]; exact mOk_New hO)
  have h22 : Nl M22 a (mZ M) l := ⟨K22a, ra, KZ, NZ, hl, Nat.ne_of_lt z1, by omega, by omega⟩
  rw [ra, rb, i1, KZ, NZ, K22X, N22X, Int.toNat_natCast]
  refine ⟨K22b, rfl, rfl, ⟨by omega, by omega, by omega, by omega, by omega⟩, fun M28 e28 M30 e30 => ?_⟩
  obtain ⟨o, ff, t, e⟩ := s_p1e (M0 := M) (b := b) o22 h22 hn (fun j hj => by rw [iX]; exact g3 j hj) (fun u => by rw [iX]; exact g4 u) i1 (Nat.ne_of_lt y1) e28 e30
  rw [iX] at e
  exact nst_rs F22 (Or.inr ⟨rfl, Z22, S22, l1, l3⟩) ff o t e
theorem s_Na_put1 (hO : mOk M) (h : Nl M a Y Cy) (k : Nt M b X Cx n) (ab : a ≠ b) (hC : Cy ≤ 50000) (hn : n ≤ 50000) : Cv G y_Na_put1 (d + 1) [vr a, vr b] M (nst M a Y Cy n (dn (mI M X) n)) := by
  obtain ⟨k0, r0, kY, nY, ⟨c1, c2⟩, ne, z1, z2⟩ := id h
  obtain ⟨⟨l0, p0, kX, nX, ⟨e1, e2⟩, -, y1, y2⟩, g1, g2, g3, g4⟩ := id k
  have bY : b ≠ Y := fun u => by rw [u, kY] at l0; omega
  refine k_Na_put1 hO ?_
  rw [r0, nY, g1]
  refine ⟨l0, k0, kY, ⟨by omega, by omega⟩, fun y => ?_, fun y => ?_⟩
  · rw [p0, nX, Int.toNat_natCast]
    refine ⟨kX, ⟨by omega, by omega, by omega, by omega, by omega⟩, fun M13 e13 M15 e15 => ?_⟩
    obtain ⟨o, ff, t, e⟩ := s_p1e (M0 := M) (b := b) hO h (by omega) g3 g4 g1 bY e13 e15
    exact nst_fi t o ff e
  · obtain ⟨l, el, l1, l2, l3⟩ : ∃ l : Nat, (if ((n : Nat) : Int) < 2 * ((Cy : Nat) : Int) then 2 * ((Cy : Nat) : Int) else ((n : Nat) : Int)) = ((l : Nat) : Int) ∧ 2 * Cy ≤ l ∧ n ≤ l ∧ l ≤ 2 * n := by
      by_cases u : ((n : Nat) : Int) < 2 * ((Cy : Nat) : Int)
      · exact ⟨2 * Cy, by rw [if_pos u]; omega, by omega, by omega, by omega⟩
      · exact ⟨n, by rw [if_neg u], by omega, by omega, by omega⟩
    rw [el, Int.toNat_natCast]
    refine ⟨⟨by omega, by omega⟩, ⟨by omega, by omega⟩, fun M19 e19 => ?_⟩
    exact s_p1n hO h k ab ⟨by omega, by omega⟩ l2 l1 l3 e19
theorem mul_bd {f c l : Int} (hf : 0 ≤ f ∧ f < 1073741824) (hc : 0 ≤ c ∧ c < f ∨ c = 0) (hl : 0 ≤ l ∧ l < 1073741824) : 0 ≤ c + f * l ∧ c + f * l < 1152921504606846976 ∧ (0 < f → c + f * l < f * 1073741824) := by
  have h1 := Int.mul_nonneg hf.1 hl.1
  have h2 : f * l ≤ f * 1073741823 := Int.mul_le_mul_of_nonneg_left (by omega) hf.1
  omega
theorem hm_mul {f c i : Int} {Q Q' : mM → Prop} (h : h_Na_multiply_40 G d a f c i M Q) (hq : ∀ M', Q M' → Q' M') : h_Na_multiply_40 G d a f c i M Q' := by
  unfold h_Na_multiply_40 at h ⊢
  exact mWm.mono h (fun r M' k => ⟨k.1, hq M' k.2⟩)
/-- the loop of multiply -/
theorem s_mul40 {f : Int} (hf : 2 ≤ f ∧ f < 1073741824) (h : Nt M a Y Cy s) (hs : 0 < s) (hC : s < Cy) (hO : mOk M) : h_Na_multiply_40 G d a f 0 0 M (fun M' => mOk M' ∧ FI (fun x => x = a ∨ x = Y) M M' ∧ ∃ s', (s ≤ s' ∧ s' ≤ s + 1) ∧ Nt M' a Y Cy s' ∧ dn (mI M' Y) s' = f * dn (mI M Y) s) := by
  obtain ⟨⟨k0, r0, kY, nY, ⟨c1, c2⟩, ne, z1, z2⟩, h1, h2, h3, h4⟩ := id h
  obtain ⟨t, rfl⟩ : ∃ t, s = t + 1 := ⟨s - 1, by omega⟩
  have dge := dn_ge h3 (h4 hs)
  suffices HH : ∀ (t' i : Nat) (c : Int) (M1 : mM), t + 1 ≤ i + t' → i ≤ t + 1 → (0 ≤ c ∧ c < f) → mOk M1 → FI (fun x => x = Y) M M1 → lim M1 Y (t + 1) → (∀ j, i ≤ j → mI M1 Y j = mI M Y j) → dn (mI M1 Y) (t + 1) + c * 2 ^ (30 * i) = dn (mI M Y) (t + 1) + (f - 1) * dn (mI M Y) i → h_Na_multiply_40 G d a f c i M1 (fun M' => mOk M' ∧ FI (fun x => x = a ∨ x = Y) M M' ∧ ∃ s', (t + 1 ≤ s' ∧ s' ≤ t + 1 + 1) ∧ Nt M' a Y Cy s' ∧ dn (mI M' Y) s' = f * dn (mI M Y) (t + 1)) from by
    have := HH (t + 1) 0 0 M (by omega) (by omega) (by omega) hO FI.refl h3 (fun _ _ => rfl) (by show _ + 0 * _ = _ + _ * 0; omega)
    exact this
  intro t'
  induction t' with
  | zero =>
    intro i c M1 g1 g2 gc o F L E V
    have ei : i = t + 1 := by omega
    subst ei
    have a1 : mI M1 a 1 = ((t + 1 : Nat) : Int) := by rw [F.2.2.2.2.2.2 a ne]; exact h1
    have hN := (Nl.fi ⟨k0, r0, kY, nY, ⟨c1, c2⟩, ne, z1, z2⟩ F : Nl M1 a Y Cy)
    rw [show dn (mI M Y) (t + 1) + (f - 1) * dn (mI M Y) (t + 1) = f * dn (mI M Y) (t + 1) by rw [Int.sub_mul]; omega] at V
    refine k_Na_multiply_40 o ⟨by omega, by omega⟩ ⟨by omega, by omega⟩ ⟨by omega, by omega⟩ ?_
    rw [a1, F.1, F.2.1, F.2.2.1, r0, nY, Int.toNat_natCast]
    refine ⟨k0, fun _ => ⟨fun y => ?_, fun y => ?_⟩, fun y => absurd (Int.le_refl _) y⟩
    · have c0 : c = 0 := j_c0.1 y
      rw [c0, Int.zero_mul, Int.add_zero] at V
      refine ⟨o, F.mono (fun _ u => Or.inr u), t + 1, ⟨by omega, by omega⟩, ⟨hN, a1, h2, L, fun _ => ?_⟩, V⟩
      show mI M1 Y t ≠ 0
      refine dn_top L ?_
      rw [V]
      have := Int.mul_le_mul_of_nonneg_right (show 1 ≤ f by omega) (dn_nn h3)
      omega
    · have c0 : c ≠ 0 := fun u => y (j_c0.2 u)
      refine ⟨kY, ⟨by omega, by omega⟩, ⟨by omega, by omega⟩, fun M39 e39 => ?_⟩
      have f39 : FI (fun x => x = Y) M1 M39 := by rw [e39]; exact FI.ui rfl
      have a39 : mI M39 a 1 = ((t + 1 : Nat) : Int) := by rw [f39.2.2.2.2.2.2 a ne]; exact a1
      rw [a39]
      refine ⟨⟨by omega, by omega⟩, fun M42 e42 => ?_⟩
      have f42 : FI (fun x => x = a) M39 M42 := by rw [e42]; exact FI.ui rfl
      have ff : FI (fun x => x = a ∨ x = Y) M M42 := ((F.trans f39).mono (fun _ u => Or.inr u)).trans (f42.mono (fun _ u => Or.inl u))
      have yy : mI M42 Y = mI M39 Y := f42.2.2.2.2.2.2 Y (fun u => ne u.symm)
      have yt : mI M39 Y (t + 1) = c := by rw [mI_ui Y (t + 1) e39, if_pos ⟨rfl, rfl⟩]
      have yl : ∀ j, j < t + 1 → mI M39 Y j = mI M1 Y j := fun j hj => by rw [mI_ui Y j e39, if_neg (fun u => by omega)]
      refine ⟨by rw [e42]; exact mOk_UI (by rw [e39]; exact mOk_UI o ⟨by omega, by omega⟩) ⟨by omega, by omega⟩, ff, t + 1 + 1, ⟨by omega, by omega⟩, ⟨Nl.fi ⟨k0, r0, kY, nY, ⟨c1, c2⟩, ne, z1, z2⟩ ff, by rw [mI_ui a 1 e42, if_pos ⟨rfl, rfl⟩]; omega, by omega, fun j hj => ?_, fun _ => ?_⟩, ?_⟩
      · rw [yy]
        by_cases u : j < t + 1
        · rw [yl j u]; exact L j u
        · rw [show j = t + 1 by omega, yt]; omega
      · rw [yy, show t + 1 + 1 - 1 = t + 1 by omega, yt]; exact c0
      · rw [yy, dn_s, yt, dn_cg (t + 1) yl]
        exact V
  | succ t' ih =>
    intro i c M1 g1 g2 gc o F L E V
    by_cases ei : i = t + 1
    · exact ih i c M1 (by omega) g2 gc o F L E V
    have li : i < t + 1 := by omega
    have a1 : mI M1 a 1 = ((t + 1 : Nat) : Int) := by rw [F.2.2.2.2.2.2 a ne]; exact h1
    obtain ⟨b1, b2, b3⟩ := mul_bd (f := f) (c := c) (l := mI M1 Y i) ⟨by omega, by omega⟩ (Or.inl gc) (L i li)
    refine k_Na_multiply_40 o ⟨by omega, by omega⟩ ⟨by omega, by omega⟩ ⟨by omega, by omega⟩ ?_
    rw [a1, F.1, F.2.1, F.2.2.1, r0, nY, Int.toNat_natCast, Int.toNat_natCast, j_and, j_ushr b1 (by omega)]
    refine ⟨k0, fun y => absurd y (by omega), fun _ => ⟨kY, by omega, by omega, m30i _, fun M48 e48 => ?_⟩⟩
    rw [show ((i : Int) + 1) = ((i + 1 : Nat) : Int) by omega]
    have b4 := b3 (by omega)
    have V48 := c_st (i := i) (dn_ui (M' := M48) li e48)
    refine ih (i + 1) _ M48 (by omega) (by omega) ⟨by omega, by omega⟩ (by rw [e48]; exact mOk_UI o (m30i _)) (F.trans (by rw [e48]; exact FI.ui rfl)) (lim_ui L (m30 _) e48) (fun j hj => by rw [mI_ui Y j e48, if_neg (fun u => by omega)]; exact E j (by omega)) ?_
    rw [V48, dn_s (mI M Y) i, ← E i (Nat.le_refl _)]
    exact al_mul V
theorem s_Na_multiply {f : Int} (hf : 1 ≤ f ∧ f < 1073741824) (hO : mOk M) (h : Nt M a Y Cy s) (hC : Cy ≤ 50000) : Cv G y_Na_multiply (d + 2) [vr a, vi f] M (nst M a Y Cy (s + 1) (f * dn (mI M Y) s)) := by
  obtain ⟨⟨k0, r0, kY, nY, ⟨c1, c2⟩, ne, z1, z2⟩, h1, h2, h3, h4⟩ := id h
  refine k_Na_multiply hO ⟨by omega, by omega⟩ ⟨fun y => ?_, fun y => ?_⟩
  · rw [y, Int.one_mul]
    exact nst_fi h hO FI.refl rfl
  · rw [r0, nY, h1]
    refine ⟨k0, kY, ⟨by omega, by omega⟩, fun e => ?_, fun e => ?_⟩
    · have es : s = Cy := by omega
      rw [show 2 * ((s : Nat) : Int) = ((2 * s : Nat) : Int) by omega]
      refine (s_JA_copyOf hO kY z2 (by omega) (by omega)).mono (fun x M15 q => ?_)
      obtain ⟨ex, o15, f15, Z15, S15, K15, N15, I15⟩ := q
      subst ex
      rw [nY] at I15
      refine ⟨o15, by rw [(f15.2 a z1).1]; exact k0, fun M19 e19 => ?_⟩
      have F19 : FA (fun _ => False) (fun x => x = a) M M19 := (f15.mono (fun _ _ y => y) (fun _ _ y => y.elim)).trans (FA.ur rfl e19)
      have Z19 : mZ M19 = mZ M + 1 := by rw [e19]; exact Z15
      have o19 : mOk M19 := by rw [e19]; exact mOk_UR o15
      have t19 : Nt M19 a (mZ M) (2 * s) s := ⟨⟨by rw [(F19.2 a z1).1]; exact k0, by rw [e19, mR_UR, if_pos ⟨rfl, rfl⟩], by rw [e19]; exact K15, by rw [e19]; exact N15, ⟨by omega, by omega⟩, by omega, by omega, by omega⟩, by rw [(F19.2 a z1).2.2.2.2 (fun u => u)]; exact h1, by omega, fun j hj => by rw [e19, mI_UR, I15 j (by omega)]; exact h3 j hj, fun u => by rw [e19, mI_UR, I15 _ (by omega)]; exact h4 u⟩
      refine hm_mul (s_mul40 ⟨by omega, hf.2⟩ t19 (by omega) (by omega) o19) (fun M' q => ?_)
      obtain ⟨o, F, s', -, T, V⟩ := q
      refine nst_rs (Y' := mZ M) (Cy' := 2 * s) F19 (Or.inr ⟨rfl, Z19, by rw [e19, mS_UR]; exact S15, by omega, by omega⟩) F o T ?_
      rw [V, e19, mI_UR, dn_cg s (fun j hj => I15 j (by omega))]
    · by_cases s0 : s = 0
      · subst s0
        refine k_Na_multiply_40 hO ⟨by omega, by omega⟩ ⟨by omega, by omega⟩ ⟨by omega, by omega⟩ ?_
        rw [h1]
        refine ⟨k0, fun _ => ⟨fun _ => ?_, fun u => absurd (j_c0.2 rfl) u⟩, fun u => absurd (Int.le_refl _) u⟩
        exact nst_fi h hO FI.refl (by show (0 : Int) = f * 0; omega)
      · refine hm_mul (s_mul40 ⟨by omega, hf.2⟩ h (by omega) (by omega) hO) (fun M' q => ?_)
        obtain ⟨o, F, s', -, T, V⟩ := q
        exact nst_fi T o F V
end NAD
end
section
/-! The class's natural numbers: a sum. -/
section NAE
variable {G : mG} {d a b Y Cy s n m X Cx w : Nat} {M M' M1 M2 M3 : mM} {v : Int}
theorem add_bd {f c l x : Int} (hf : 0 ≤ f ∧ f < 1073741824) (hc : 0 ≤ c ∧ c < 1073741824) (hl : 0 ≤ l ∧ l < 1073741824) (hx : 0 ≤ x ∧ x < 1073741824) : 0 ≤ c + (l + f * x) ∧ c + (l + f * x) < 1152921504606846976 := by
  have h1 := Int.mul_nonneg hf.1 hx.1
  have h2 : f * x ≤ 1073741823 * x := Int.mul_le_mul_of_nonneg_right (by omega) hx.1
  omega
theorem q30 {x : Int} (h : 0 ≤ x ∧ x < 1152921504606846976) : 0 ≤ x / 1073741824 ∧ x / 1073741824 < 1073741824 := by omega
theorem c30 {c : Int} (h : 0 ≤ c ∧ c < 1073741824) : i64 c := ⟨by omega, by omega⟩
theorem t30 {x : Int} (h : 0 ≤ x ∧ x < 1152921504606846976) : x < 9223372036854775808 := by omega
/-- the carry goes on -/
theorem s_add107 {T : Int} (h : Nl M a Y Cy) (hm : m < Cy) (hT : T < 2 ^ (30 * (m + 1))) : ∀ (t i : Nat) (c : Int) (M1 : mM), m + 1 ≤ i + t → i ≤ m + 1 → (0 ≤ c ∧ c < 1073741824) → mOk M1 → FI (fun x => x = Y) M M1 → lim M1 Y (m + 1) → dn (mI M1 Y) (m + 1) + c * 2 ^ (30 * i) = T → h_Na_add_107 G d a m c i M1 (fun M' => mOk M' ∧ FI (fun x => x = a ∨ x = Y) M M' ∧ ∃ s', Nt M' a Y Cy s' ∧ dn (mI M' Y) s' = T) := by
  have cb := h.2.2.2.2.1.2
  have fin : ∀ (M1 : mM), mOk M1 → FI (fun x => x = Y) M M1 → lim M1 Y (m + 1) → dn (mI M1 Y) (m + 1) = T → mK M1 a = 10 ∧ Cv G y_Na_trim d [vr a, vi ((m : Int) + 1)] M1 (fun M39 => mOk M39 ∧ (mOk M39 ∧ FI (fun x => x = a ∨ x = Y) M M39 ∧ ∃ s', Nt M39 a Y Cy s' ∧ dn (mI M39 Y) s' = T)) := by
    intro M1 o F L V
    refine ⟨by rw [F.1]; exact h.1, ?_⟩
    rw [show ((m : Int) + 1) = ((m + 1 : Nat) : Int) by omega]
    refine (s_Na_trim o (h.fi F) (by omega) L).mono (fun M' q => ?_)
    obtain ⟨o', F', -, s', -, t', e'⟩ := q
    exact ⟨o', o', (F.mono (fun _ u => Or.inr u)).trans (F'.mono (fun _ u => Or.inl u)), s', t', by rw [e', V]⟩
  intro t
  induction t with
  | zero =>
    intro i c M1 g1 g2 gc o F L V
    have ei : i = m + 1 := by omega
    subst ei
    have c0 : c = 0 := by
      have a1 := dn_nn L
      refine Classical.byContradiction (fun u => ?_)
      have a2 := Int.mul_le_mul_of_nonneg_right (show 1 ≤ c by omega) (Int.le_of_lt (p30p (m + 1)))
      omega
    rw [c0, Int.zero_mul, Int.add_zero] at V
    exact k_Na_add_107 o ⟨by omega, by omega⟩ (c30 gc) ⟨by omega, by omega⟩ ⟨fun _ => fin M1 o F L V, fun y => absurd (Or.inl (by omega)) y⟩
  | succ t ih =>
    intro i c M1 g1 g2 gc o F L V
    by_cases ei : i = m + 1
    · exact ih i c M1 (by omega) g2 gc o F L V
    have li : i < m + 1 := by omega
    refine k_Na_add_107 o ⟨by omega, by omega⟩ (c30 gc) ⟨by omega, by omega⟩ ⟨fun y => ?_, fun y => ?_⟩
    · have c0 : c = 0 := by
        rcases y with y | y
        · omega
        · exact j_c0.1 y
      rw [c0, Int.zero_mul, Int.add_zero] at V
      exact fin M1 o F L V
    · have Li := L i li
      have bd : 0 ≤ c + mI M1 Y i ∧ c + mI M1 Y i < 1152921504606846976 := by omega
      rw [F.1, F.2.1, F.2.2.1, h.2.1, h.2.2.2.1, Int.toNat_natCast, j_and, j_ushr bd.1 (t30 bd)]
      refine ⟨h.1, h.2.2.1, by omega, by omega, m30i _, fun M48 e48 => ?_⟩
      rw [show ((i : Int) + 1) = ((i + 1 : Nat) : Int) by omega]
      refine ih (i + 1) _ M48 (by omega) (by omega) (q30 bd) (by rw [e48]; exact mOk_UI o (m30i _)) (F.trans (by rw [e48]; exact FI.ui rfl)) (lim_ui L (m30 _) e48) ?_
      rw [c_st (i := i) (dn_ui (M' := M48) li e48)]
      exact al_car V
/-- the sum limb by limb -/
theorem s_add40 {f T : Int} (hf : 0 ≤ f ∧ f < 1073741824) (h : Nl M a Y Cy) (k : Nt M b X Cx n) (hm : m < Cy) (hn : n ≤ m) (bY : b ≠ Y) (XY : X ≠ Y) (hT : T < 2 ^ (30 * (m + 1))) (eT : T = dn (mI M Y) (m + 1) + f * dn (mI M X) n) : ∀ (t i : Nat) (c : Int) (M1 : mM), n ≤ i + t → i ≤ n → (0 ≤ c ∧ c < 1073741824) → mOk M1 → FI (fun x => x = Y) M M1 → lim M1 Y (m + 1) → dn (mI M1 Y) (m + 1) + c * 2 ^ (30 * i) = dn (mI M Y) (m + 1) + f * dn (mI M X) i → h_Na_add_40 G d a b f m c i M1 (fun M' => mOk M' ∧ FI (fun x => x = a ∨ x = Y) M M' ∧ ∃ s', Nt M' a Y Cy s' ∧ dn (mI M' Y) s' = T) := by
  obtain ⟨⟨l0, p0, kX, nX, ⟨e1, e2⟩, -, y1, y2⟩, g1, g2, g3, g4⟩ := id k
  have cb := h.2.2.2.2.1.2
  have fin : ∀ (c : Int) (M1 : mM), (0 ≤ c ∧ c < 1073741824) → mOk M1 → FI (fun x => x = Y) M M1 → lim M1 Y (m + 1) → dn (mI M1 Y) (m + 1) + c * 2 ^ (30 * n) = dn (mI M Y) (m + 1) + f * dn (mI M X) n → h_Na_add_107 G d a m c n M1 (fun M' => mOk M' ∧ FI (fun x => x = a ∨ x = Y) M M' ∧ ∃ s', Nt M' a Y Cy s' ∧ dn (mI M' Y) s' = T) := fun c M1 gc o F L V => s_add107 h hm hT (m + 1) n c M1 (by omega) (by omega) gc o F L (V.trans eT.symm)
  intro t
  induction t with
  | zero =>
    intro i c M1 h1 h2 gc o F L V
    have ei : i = n := by omega
    subst ei
    have b1 : mI M1 b 1 = ((i : Nat) : Int) := by rw [F.2.2.2.2.2.2 b bY]; exact g1
    refine k_Na_add_40 o (l30i hf) ⟨by omega, by omega⟩ (c30 gc) ⟨by omega, by omega⟩ ?_
    rw [b1]
    exact ⟨by rw [F.1]; exact l0, fun _ => fin c M1 gc o F L V, fun y => absurd (Int.le_refl _) y⟩
  | succ t ih =>
    intro i c M1 h1 h2 gc o F L V
    by_cases ei : i = n
    · exact ih i c M1 (by omega) h2 gc o F L V
    have li : i < m + 1 := by omega
    have b1 : mI M1 b 1 = ((n : Nat) : Int) := by rw [F.2.2.2.2.2.2 b bY]; exact g1
    have iX : mI M1 X = mI M X := F.2.2.2.2.2.2 X XY
    have bd := add_bd hf gc (L i li) (g3 i (by omega))
    refine k_Na_add_40 o (l30i hf) ⟨by omega, by omega⟩ (c30 gc) ⟨by omega, by omega⟩ ?_
    rw [b1, F.1, F.2.1, F.2.2.1, h.2.1, h.2.2.2.1, p0, nX, iX, Int.toNat_natCast, j_and, j_ushr bd.1 (t30 bd)]
    refine ⟨l0, fun y => absurd y (by omega), fun y => ⟨h.1, h.2.2.1, by omega, kX, by omega, by omega, m30i _, fun M27 e27 => ?_⟩⟩
    rw [show ((i : Int) + 1) = ((i + 1 : Nat) : Int) by omega]
    refine ih (i + 1) _ M27 (by omega) (by omega) (q30 bd) (by rw [e27]; exact mOk_UI o (m30i _)) (F.trans (by rw [e27]; exact FI.ui rfl)) (lim_ui L (m30 _) e27) ?_
    rw [c_st (i := i) (dn_ui (M' := M27) li e27), dn_s (mI M X) i]
    exact al_add V
theorem hm_add {f l c i : Int} {Q Q' : mM → Prop} (h : h_Na_add_40 G d a b f l c i M Q) (hq : ∀ M', Q M' → Q' M') : h_Na_add_40 G d a b f l c i M Q' := by
  unfold h_Na_add_40 at h ⊢
  exact mWm.mono h (fun r M' k => ⟨k.1, hq M' k.2⟩)
theorem add_T {f x z p : Int} (hf : 0 ≤ f ∧ f < 1073741824) (hx : x < p) (hz : 0 ≤ z ∧ z < p) : x + f * z < p * 1073741824 := by
  have h2 : f * z ≤ 1073741823 * z := Int.mul_le_mul_of_nonneg_right (by omega) hz.1
  omega
theorem s_Na_add {f : Int} (hf : 0 ≤ f ∧ f < 1073741824) (hO : mOk M) (h : Nt M a Y Cy s) (k : Nt M b X Cx n) (ab : a ≠ b) (YX : Y ≠ X) (hC : Cy ≤ 50000) (hs : s ≤ m) (hn : n ≤ m) (em : s = m ∨ n = m) (hm : m < 50000) : Cv G y_Na_add (d + 3) [vr a, vr b, vi f] M (nst M a Y Cy (m + 1) (dn (mI M Y) s + f * dn (mI M X) n)) := by
  obtain ⟨hl, h1, h2, h3, h4⟩ := id h
  obtain ⟨k0, r0, kY, nY, ⟨c1, c2⟩, ne, z1, z2⟩ := id hl
  obtain ⟨⟨l0, p0, kX, nX, ⟨e1, e2⟩, -, y1, y2⟩, g1, g2, g3, g4⟩ := id k
  have bY : b ≠ Y := fun u => by rw [u, kY] at l0; omega
  refine k_Na_add hO (l30i hf) ?_
  rw [h1, g1, show (if ((s : Nat) : Int) < ((n : Nat) : Int) then ((n : Nat) : Int) else ((s : Nat) : Int)) = ((m : Nat) : Int) by split <;> omega, show ((m : Nat) : Int) + 1 = ((m + 1 : Nat) : Int) by omega]
  refine ⟨k0, l0, (s_Na_reserve hO hl (by omega) hC).mono (fun M3 q => ?_)⟩
  obtain ⟨o3, Y', C', h3', hw, hC', F3, R3, I3, G3⟩ := q
  have yn : Y' = Y ∨ Y' = mZ M := by
    rcases G3 with ⟨u, -⟩ | ⟨u, -⟩
    · exact Or.inl u
    · exact Or.inr u
  have XY' : X ≠ Y' := by rcases yn with u | u <;> omega
  have bY' : b ≠ Y' := by rcases yn with u | u <;> omega
  have a3 : mI M3 a 1 = ((s : Nat) : Int) := by rw [(F3.2 a z1).2.2.2.2 (fun u => u)]; exact h1
  have k3 : Nt M3 b X Cx n := by
    refine ⟨⟨by rw [(F3.2 b y1).1]; exact l0, by rw [(F3.2 b y1).2.2.2.1 (fun u => ab u.symm)]; exact p0, by rw [(F3.2 X y2).1]; exact kX, by rw [(F3.2 X y2).2.1]; exact nX, ⟨e1, e2⟩, fun u => by rw [u, kX] at l0; omega, Nat.lt_of_lt_of_le y1 F3.1.1, Nat.lt_of_lt_of_le y2 F3.1.1⟩, by rw [(F3.2 b y1).2.2.2.2 (fun u => u)]; exact g1, g2, fun j hj => by rw [(F3.2 X y2).2.2.2.2 (fun u => u)]; exact g3 j hj, fun u => by rw [(F3.2 X y2).2.2.2.2 (fun u => u)]; exact g4 u⟩
  have iX : mI M3 X = mI M X := (F3.2 X y2).2.2.2.2 (fun u => u)
  obtain ⟨-, r0', kY', nY', ⟨-, c2'⟩, ne', -⟩ := id h3'
  refine ⟨o3, h3'.1, ?_⟩
  rw [r0', a3]
  refine (s_JA_fillR o3 kY' (by omega) (by omega) (by omega) ⟨by decide, by decide⟩).mono (fun M7 q => ?_)
  obtain ⟨o7, f7, i7⟩ := q
  have L7 : lim M7 Y' (m + 1) := fun j hj => by
    rw [i7 j]
    by_cases u : s ≤ j ∧ j < m + 1
    · rw [if_pos u]; omega
    · rw [if_neg u, I3 j (by omega)]; exact h3 j (by omega)
  have D7 : dn (mI M7 Y') (m + 1) = dn (mI M Y) s := by
    rw [dn_z (s := s) (by omega) (fun j u1 u2 => by rw [i7 j, if_pos ⟨u1, u2⟩])]
    exact dn_cg s (fun j hj => by rw [i7 j, if_neg (by omega), I3 j (by omega)])
  have k7 : Nt M7 b X Cx n := by
    obtain ⟨q1, q2, q3, q4, q5⟩ := k3
    exact ⟨q1.fi f7, by rw [f7.2.2.2.2.2.2 b bY']; exact q2, q3, fun j hj => by rw [f7.2.2.2.2.2.2 X XY']; exact q4 j hj, fun u => by rw [f7.2.2.2.2.2.2 X XY']; exact q5 u⟩
  have T7 : dn (mI M7 Y') (m + 1) + f * dn (mI M7 X) n < 2 ^ (30 * (m + 1)) := by
    rw [p30, f7.2.2.2.2.2.2 X XY', iX, D7]
    exact add_T hf (Int.lt_of_lt_of_le (dn_lt h3) (p30m hs)) ⟨dn_nn g3, Int.lt_of_lt_of_le (dn_lt g3) (p30m hn)⟩
  refine ⟨o7, hm_add (s_add40 (T := dn (mI M7 Y') (m + 1) + f * dn (mI M7 X) n) hf (h3'.fi f7) k7 (by omega) hn bY' XY' T7 rfl n 0 0 M7 (by omega) (by omega) ⟨by decide, by decide⟩ o7 FI.refl L7 (by show _ + 0 * _ = _ + _ * 0; rw [Int.zero_mul, Int.mul_zero])) (fun M' q => ?_)⟩
  obtain ⟨o, F, s', T, V⟩ := q
  refine nst_rs F3 G3 ((f7.mono (fun _ u => Or.inr u)).trans F) o T ?_
  rw [V, D7, f7.2.2.2.2.2.2 X XY', iX]
end NAE
end
section
/-! The class's natural numbers: a product. -/
section NAF
variable {G : mG} {d a b c Y Cy s n m X Cx Z Cz w : Nat} {M M' M1 M2 M3 : mM} {v : Int}
/-- a number that is not touched -/
theorem Nt.fi {S : Nat → Prop} (h : Nt M b X Cx n) (f : FI S M M') (hb : ¬ S b) (hX : ¬ S X) : Nt M' b X Cx n := by
  obtain ⟨q1, q2, q3, q4, q5⟩ := h
  exact ⟨q1.fi f, by rw [f.2.2.2.2.2.2 b hb]; exact q2, q3, fun j hj => by rw [f.2.2.2.2.2.2 X hX]; exact q4 j hj, fun u => by rw [f.2.2.2.2.2.2 X hX]; exact q5 u⟩
theorem Nt.fa {S R : Nat → Prop} (h : Nt M b X Cx n) (F : FA S R M M') (hb : ¬ S b) (hX : ¬ S X) (rb : ¬ R b) : Nt M' b X Cx n := by
  obtain ⟨⟨l0, p0, kX, nX, e, ne, y1, y2⟩, g1, g2, g3, g4⟩ := h
  exact ⟨⟨by rw [(F.2 b y1).1]; exact l0, by rw [(F.2 b y1).2.2.2.1 rb]; exact p0, by rw [(F.2 X y2).1]; exact kX, by rw [(F.2 X y2).2.1]; exact nX, e, ne, Nat.lt_of_lt_of_le y1 F.1.1, Nat.lt_of_lt_of_le y2 F.1.1⟩, by rw [(F.2 b y1).2.2.2.2 hb]; exact g1, g2, fun j hj => by rw [(F.2 X y2).2.2.2.2 hX]; exact g3 j hj, fun u => by rw [(F.2 X y2).2.2.2.2 hX]; exact g4 u⟩
/-- one limb times the other number -/
theorem s_pr56 {f : Int} {N i : Nat} {Q : mM → Prop} (hf : 0 ≤ f ∧ f < 1073741824) (h : Nl M a Y Cy) (k : Nt M c Z Cz m) (hN : N ≤ Cy) (hi : i + m < N) (cY : c ≠ Y) (ZY : Z ≠ Y)
    (hQ : ∀ M', mOk M' → FI (fun x => x = Y) M M' → lim M' Y N → (∀ j, i + 1 + m ≤ j → j < N → mI M' Y j = mI M Y j) → dn (mI M' Y) N = dn (mI M Y) N + f * (2 ^ (30 * i) * dn (mI M Z) m) → h_Na_putProduct_33 G d a b c ((i + 1 : Nat) : Int) M' Q)
    (z : mI M Y (i + m) = 0) : ∀ (t j : Nat) (e : Int) (M1 : mM), m ≤ j + t → j ≤ m → (0 ≤ e ∧ e < 1073741824) → mOk M1 → FI (fun x => x = Y) M M1 → lim M1 Y N → (∀ u, i + m ≤ u → u < N → mI M1 Y u = mI M Y u) → dn (mI M1 Y) N + e * (2 ^ (30 * i) * 2 ^ (30 * j)) = dn (mI M Y) N + f * (2 ^ (30 * i) * dn (mI M Z) j) → h_Na_putProduct_56 G d a b c i f e j M1 Q := by
  obtain ⟨⟨l0, p0, kX, nX, ⟨e1, e2⟩, -, y1, y2⟩, g1, g2, g3, g4⟩ := id k
  have cb := h.2.2.2.2.1.2
  intro t
  induction t with
  | zero =>
    intro j e M1 h1 h2 gc o F L U V
    have ej : j = m := by omega
    subst ej
    have b1 : mI M1 c 1 = ((j : Nat) : Int) := by rw [F.2.2.2.2.2.2 c cY]; exact g1
    refine k_Na_putProduct_56 o ⟨by omega, by omega⟩ (c30 hf) (c30 gc) ⟨by omega, by omega⟩ ?_
    rw [b1, F.1, F.2.1, F.2.2.1, h.2.1, h.2.2.2.1, show ((i : Nat) : Int) + ((j : Nat) : Int) = ((i + j : Nat) : Int) by omega, Int.toNat_natCast]
    refine ⟨l0, fun _ => ⟨h.1, h.2.2.1, by omega, l30i gc, fun M43 e43 => ?_⟩, fun y => absurd (Int.le_refl _) y⟩
    rw [show ((i : Int) + 1) = ((i + 1 : Nat) : Int) by omega]
    refine hQ M43 (by rw [e43]; exact mOk_UI o (l30i gc)) (F.trans (by rw [e43]; exact FI.ui rfl)) (lim_ui L gc e43) (fun u u1 u2 => by rw [mI_ui Y u e43, if_neg (fun q => by omega)]; exact U u (by omega) u2) ?_
    rw [dn_ui (M' := M43) hi e43, U (i + j) (Nat.le_refl _) hi, z, Int.sub_zero, p30a]
    exact V
  | succ t ih =>
    intro j e M1 h1 h2 gc o F L U V
    by_cases ej : j = m
    · exact ih j e M1 (by omega) h2 gc o F L U V
    have li : i + j < N := by omega
    have b1 : mI M1 c 1 = ((m : Nat) : Int) := by rw [F.2.2.2.2.2.2 c cY]; exact g1
    have iX : mI M1 Z = mI M Z := F.2.2.2.2.2.2 Z ZY
    have bd := add_bd hf gc (L (i + j) li) (g3 j (by omega))
    refine k_Na_putProduct_56 o ⟨by omega, by omega⟩ (c30 hf) (c30 gc) ⟨by omega, by omega⟩ ?_
    rw [b1, F.1, F.2.1, F.2.2.1, h.2.1, h.2.2.2.1, p0, nX, iX, show ((i : Nat) : Int) + ((j : Nat) : Int) = ((i + j : Nat) : Int) by omega, show ((i : Nat) : Int) + ((m : Nat) : Int) = ((i + m : Nat) : Int) by omega, Int.toNat_natCast, Int.toNat_natCast, Int.toNat_natCast, j_and, j_ushr bd.1 (t30 bd)]
    refine ⟨l0, fun y => absurd y (by omega), fun y => ⟨h.1, h.2.2.1, by omega, kX, by omega, by omega, m30i _, fun M27 e27 => ?_⟩⟩
    rw [show ((j : Int) + 1) = ((j + 1 : Nat) : Int) by omega]
    refine ih (j + 1) _ M27 (by omega) (by omega) (q30 bd) (by rw [e27]; exact mOk_UI o (m30i _)) (F.trans (by rw [e27]; exact FI.ui rfl)) (lim_ui L (m30 _) e27) (fun u u1 u2 => by rw [mI_ui Y u e27, if_neg (fun q => by omega)]; exact U u u1 u2) ?_
    rw [← p30a, show i + (j + 1) = i + j + 1 by omega, c_st (i := i + j) (dn_ui (M' := M27) li e27), dn_s (mI M Z) j, p30a]
    exact al_prod V
theorem al_row {D x z f p : Int} (h : D = x * z) : D + f * (p * z) = (x + f * p) * z := by rw [h, Int.add_mul, Int.mul_assoc]
theorem s_pr33 {N : Nat} (h : Nl M a Y Cy) (k1 : Nt M b X Cx n) (k : Nt M c Z Cz m) (hN : N ≤ Cy) (eN : N = n + m) (bY : b ≠ Y) (XY : X ≠ Y) (cY : c ≠ Y) (ZY : Z ≠ Y) : ∀ (t i : Nat) (M1 : mM), n ≤ i + t → i ≤ n → mOk M1 → FI (fun x => x = Y) M M1 → lim M1 Y N → (∀ u, i + m ≤ u → u < N → mI M1 Y u = 0) → dn (mI M1 Y) N = dn (mI M X) i * dn (mI M Z) m → h_Na_putProduct_33 G d a b c i M1 (fun M' => mOk M' ∧ FI (fun x => x = a ∨ x = Y) M M' ∧ ∃ s', Nt M' a Y Cy s' ∧ dn (mI M' Y) s' = dn (mI M X) n * dn (mI M Z) m) := by
  obtain ⟨⟨l0, p0, kX, nX, ⟨e1, e2⟩, -, y1, y2⟩, g1, g2, g3, g4⟩ := id k1
  have cb := h.2.2.2.2.1.2
  intro t
  induction t with
  | zero =>
    intro i M1 h1 h2 o F L U V
    have ei : i = n := by omega
    subst ei
    have b1 : mI M1 b 1 = ((i : Nat) : Int) := by rw [F.2.2.2.2.2.2 b bY]; exact g1
    have c1 : mI M1 c 1 = ((m : Nat) : Int) := by rw [F.2.2.2.2.2.2 c cY]; exact k.2.1
    refine k_Na_putProduct_33 o ⟨by omega, by omega⟩ ?_
    rw [b1, c1, F.1, show ((i : Nat) : Int) + ((m : Nat) : Int) = ((N : Nat) : Int) by omega]
    refine ⟨l0, fun _ => ⟨k.1.1, h.1, ?_⟩, fun y => absurd (Int.le_refl _) y⟩
    refine (s_Na_trim o (h.fi F) hN L).mono (fun M' q => ?_)
    obtain ⟨o', F', -, s', -, t', e'⟩ := q
    exact ⟨o', o', (F.mono (fun _ u => Or.inr u)).trans (F'.mono (fun _ u => Or.inl u)), s', t', by rw [e', V]⟩
  | succ t ih =>
    intro i M1 h1 h2 o F L U V
    by_cases ei : i = n
    · exact ih i M1 (by omega) h2 o F L U V
    have b1 : mI M1 b 1 = ((n : Nat) : Int) := by rw [F.2.2.2.2.2.2 b bY]; exact g1
    have iX : mI M1 X = mI M X := F.2.2.2.2.2.2 X XY
    have iZ : mI M1 Z = mI M Z := F.2.2.2.2.2.2 Z ZY
    have im : i + m < N := by omega
    refine k_Na_putProduct_33 o ⟨by omega, by omega⟩ ?_
    rw [b1, F.1, F.2.1, F.2.2.1, p0, nX, iX, Int.toNat_natCast]
    refine ⟨l0, fun y => absurd y (by omega), fun y => ⟨kX, by omega, ?_⟩⟩
    have kM1 := k.fi F cY ZY
    refine s_pr56 (M := M1) (N := N) (g3 i (by omega)) (h.fi F) kM1 hN im cY ZY (fun M' o' F' L' U' V' => ?_) (U (i + m) (Nat.le_refl _) im) m 0 0 M1 (by omega) (by omega) ⟨by decide, by decide⟩ o FI.refl L (fun _ _ _ => rfl) (by show _ + 0 * _ = _ + _ * (_ * 0); rw [Int.zero_mul, Int.mul_zero, Int.mul_zero])
    refine ih (i + 1) M' (by omega) (by omega) o' (F.trans F') L' (fun u u1 u2 => by rw [U' u u1 u2]; exact U u (by omega) u2) ?_
    rw [V', iZ, dn_s]
    exact al_row V
theorem hm_pr {i : Int} {Q Q' : mM → Prop} (h : h_Na_putProduct_33 G d a b c i M Q) (hq : ∀ M', Q M' → Q' M') : h_Na_putProduct_33 G d a b c i M Q' := by
  unfold h_Na_putProduct_33 at h ⊢
  exact mWm.mono h (fun r M' k => ⟨k.1, hq M' k.2⟩)
theorem s_Na_putProduct (hO : mOk M) (hl : Nl M a Y Cy) (k1 : Nt M b X Cx n) (k : Nt M c Z Cz m) (ab : a ≠ b) (ac : a ≠ c) (YX : Y ≠ X) (YZ : Y ≠ Z) (hC : Cy ≤ 50000) (hm : n + m ≤ 50000) : Cv G y_Na_putProduct (d + 3) [vr a, vr b, vr c] M (nst M a Y Cy (n + m) (dn (mI M X) n * dn (mI M Z) m)) := by
  obtain ⟨k0, r0, kY, nY, ⟨c1, c2⟩, ne, z1, z2⟩ := id hl
  have yb := k1.1.2.2.2.2.2.2
  have yc := k.1.2.2.2.2.2.2
  refine k_Na_putProduct hO ?_
  rw [k1.2.1, k.2.1, show ((n : Nat) : Int) + ((m : Nat) : Int) = ((n + m : Nat) : Int) by omega]
  refine ⟨k1.1.1, k.1.1, k0, (s_Na_reserve hO hl hm hC).mono (fun M3 q => ?_)⟩
  obtain ⟨o3, Y', C', h3', hw, hC', F3, R3, I3, G3⟩ := q
  have yn : Y' = Y ∨ Y' = mZ M := by
    rcases G3 with ⟨u, -⟩ | ⟨u, -⟩
    · exact Or.inl u
    · exact Or.inr u
  have kb : mK M b ≠ 30 := by rw [k1.1.1]; decide
  have kc : mK M c ≠ 30 := by rw [k.1.1]; decide
  have XY' : X ≠ Y' := by rcases yn with u | u <;> omega
  have ZY' : Z ≠ Y' := by rcases yn with u | u <;> omega
  have bY' : b ≠ Y' := by
    rcases yn with u | u
    · rw [u]; intro q; rw [q] at kb; exact kb kY
    · omega
  have cY' : c ≠ Y' := by
    rcases yn with u | u
    · rw [u]; intro q; rw [q] at kc; exact kc kY
    · omega
  have k13 := k1.fa F3 (fun u => u) (fun u => u) (fun u => ab u.symm)
  have k3 := k.fa F3 (fun u => u) (fun u => u) (fun u => ac u.symm)
  have iX : mI M3 X = mI M X := (F3.2 X yb.2).2.2.2.2 (fun u => u)
  have iZ : mI M3 Z = mI M Z := (F3.2 Z yc.2).2.2.2.2 (fun u => u)
  obtain ⟨-, r0', kY', nY', ⟨-, c2'⟩, ne', -⟩ := id h3'
  rw [r0', k13.2.1, k3.2.1, show ((n : Nat) : Int) + ((m : Nat) : Int) = ((n + m : Nat) : Int) by omega]
  refine ⟨o3, h3'.1, k13.1.1, k3.1.1, ?_⟩
  refine (s_JA_fillR (p := 0) o3 kY' (by omega) (by omega) (by omega) ⟨by decide, by decide⟩).mono (fun M7 q => ?_)
  obtain ⟨o7, f7, i7⟩ := q
  have z7 : ∀ j, j < n + m → mI M7 Y' j = 0 := fun j hj => by rw [i7 j, if_pos ⟨by omega, hj⟩]
  have L7 : lim M7 Y' (n + m) := fun j hj => by rw [z7 j hj]; exact ⟨by decide, by decide⟩
  have D7 : dn (mI M7 Y') (n + m) = 0 := dn_z (s := 0) (by omega) (fun j _ u2 => z7 j u2)
  refine ⟨o7, hm_pr (s_pr33 (h3'.fi f7) (k13.fi f7 bY' XY') (k3.fi f7 cY' ZY') hw rfl bY' XY' cY' ZY' n 0 M7 (by omega) (by omega) o7 FI.refl L7 (fun u _ u2 => z7 u u2) (by rw [D7]; show (0 : Int) = 0 * _; rw [Int.zero_mul])) (fun M' q => ?_)⟩
  obtain ⟨o, F, s', T, V⟩ := q
  refine nst_rs F3 G3 ((f7.mono (fun _ u => Or.inr u)).trans F) o T ?_
  rw [V, f7.2.2.2.2.2.2 X XY', f7.2.2.2.2.2.2 Z ZY', iX, iZ]
end NAF
end
