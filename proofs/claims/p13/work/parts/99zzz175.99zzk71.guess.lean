/-! The class's natural numbers: the guess, and the step as a whole. -/
section NAJ
variable {G : mG} {d a b c Y Cy s n m X Cx w K e : Nat} {M M' M1 M2 M3 : mM} {v U V g : Int}
theorem g_bd {g v2 : Int} (hg : 0 ≤ g ∧ g < 1073741824) (h : 0 ≤ v2 ∧ v2 < 1073741824) : i64 (g * v2) := by
  have h1 := Int.mul_nonneg hg.1 h.1
  have h2 : g * v2 ≤ 1073741823 * v2 := Int.mul_le_mul_of_nonneg_right (by omega) h.1
  unfold i64
  omega
/-- what the guess stands on -/
def gsS (P U V two u2 Ul v1 v2 Vl : Int) : Prop := 0 < P ∧ U = (two * 1073741824 + u2) * P + Ul ∧ V = (v1 * 1073741824 + v2) * P + Vl ∧ (0 ≤ Ul ∧ Ul < P) ∧ (0 ≤ u2 ∧ u2 < 1073741824) ∧ (0 ≤ v2 ∧ v2 < 1073741824) ∧ (0 ≤ Vl ∧ Vl < P) ∧ (1073741824 ≤ 2 * v1 ∧ v1 < 1073741824) ∧ U < V * 1073741824
theorem s_tm68 {P two u2 Ul v1 v2 Vl : Int} {Q : Int → mM → Prop} (S : gsS P U V two u2 Ul v1 v2 Vl) (hO : mOk M) (h : Nl M a Y Cy) (k : Nt M b X Cx n) (hn : 2 ≤ n) (hK : e + n < Cy) (e2 : mI M X (n - 2) = v2) (eu : mI M Y (e + n - 2) = u2) (hQ : ∀ g : Int, (0 ≤ g ∧ g < 1073741824) → U < (g + 1) * V → (g - 1) * V ≤ U → h_Na_takeMultiple_132 G d a b e n g 0 0 M Q) : ∀ (t i : Nat) (g : Int), 2 ≤ i + t → i ≤ 2 → (0 ≤ g ∧ g < 1073741824) → U < (g + 1) * V → (g - 2 + i) * V ≤ U → (0 ≤ two - g * v1 ∧ two - g * v1 < 2147483648 + i * 1073741824) → h_Na_takeMultiple_68 G d a b e n v1 g (two - g * v1) i M Q := by
  obtain ⟨hP, eU, eV, ⟨ul0, ul1⟩, ⟨u20, u21⟩, hv2, hVl, hv1, hUV⟩ := S
  obtain ⟨⟨l0, p0, kX, nX, ⟨e1, e2'⟩, -, y1, y2⟩, g1, g2, g3, g4⟩ := id k
  have cb := h.2.2.2.2.1.2
  intro t
  induction t with
  | zero =>
    intro i g h1 h2 hg q1 q0 hr
    have ei : i = 2 := by omega
    subst ei
    refine k_Na_takeMultiple_68 hO ⟨by omega, by omega⟩ ⟨by omega, by omega⟩ ⟨by omega, by omega⟩ ⟨by omega, by omega⟩ ⟨by omega, by omega⟩ ⟨by omega, by omega⟩ ⟨fun y => absurd (by omega) y, fun _ => hQ g hg q1 ?_, fun y => absurd (Or.inl (by omega)) y⟩
    have V0 : 0 ≤ V := by
      rw [eV]
      have := Int.mul_nonneg (show 0 ≤ v1 * 1073741824 + v2 by omega) (Int.le_of_lt hP)
      omega
    rw [show g - 2 + ((2 : Nat) : Int) = g by omega] at q0
    rw [Int.sub_mul, Int.one_mul]
    omega
  | succ t ih =>
    intro i g h1 h2 hg q1 q0 hr
    by_cases ei : i = 2
    · exact ih i g (by omega) h2 hg q1 q0 hr
    refine k_Na_takeMultiple_68 hO ⟨by omega, by omega⟩ ⟨by omega, by omega⟩ ⟨by omega, by omega⟩ ⟨by omega, by omega⟩ ⟨by omega, by omega⟩ ⟨by omega, by omega⟩ ?_
    rw [p0, nX, h.2.1, h.2.2.2.1, show Int.toNat (((n : Nat) : Int) - 2) = n - 2 by omega, show Int.toNat ((((e : Nat) : Int) + ((n : Nat) : Int)) - 2) = e + n - 2 by omega, e2, eu, j_shl ⟨by omega, by omega⟩]
    refine ⟨fun _ => ⟨l0, kX, by omega, h.1, h.2.2.1, by omega, g_bd hg hv2, ⟨by omega, by omega⟩⟩, fun y => ?_, fun y => ?_⟩
    · have y2 : g * v2 ≤ (two - g * v1) * 1073741824 + u2 := by
        rcases y with y | y
        · omega
        · exact j_cle.1 y
      exact hQ g hg q1 (kn_one hP eU eV ul0 hv2.1 hVl (by omega) hg y2)
    · have y2 : (two - g * v1) * 1073741824 + u2 < g * v2 := by
        refine Classical.byContradiction (fun u => y (Or.inr (j_cle.2 (by omega))))
      have gp : 1 ≤ g := by
        refine Classical.byContradiction (fun u => ?_)
        have g0 : g = 0 := by omega
        rw [g0, Int.zero_mul, Int.zero_mul] at y2
        rw [g0, Int.zero_mul] at hr
        omega
      have er : two - g * v1 + v1 = two - (g - 1) * v1 := by rw [Int.sub_mul, Int.one_mul]; omega
      rw [er, show ((i : Int) + 1) = ((i + 1 : Nat) : Int) by omega]
      refine ih (i + 1) (g - 1) (by omega) (by omega) ⟨by omega, by omega⟩ (kn_dec hP eU eV ul1 hVl.1 hg.1 y2) ?_ ⟨by omega, by omega⟩
      rw [show g - 1 - 2 + ((i + 1 : Nat) : Int) = g - 2 + (i : Int) by omega]
      exact q0
theorem two_bd {x y : Int} (hx : 0 ≤ x ∧ x < 1073741824) (hy : 0 ≤ y ∧ y < 1073741824) : 0 ≤ x * 1073741824 + y ∧ x * 1073741824 + y < 1152921504606846976 := by omega
/-- the first guess -/
theorem g_first {two v1 g : Int} (ht : 0 ≤ two) (hv : 0 < v1) (eg : g = if 1073741823 < two / v1 then 1073741823 else two / v1) : (0 ≤ g ∧ g < 1073741824) ∧ g * v1 ≤ two ∧ (g = 1073741823 ∨ two < (g + 1) * v1) := by
  have h0 := Int.ediv_nonneg ht (Int.le_of_lt hv)
  have h1 := Int.ediv_mul_le two (show v1 ≠ 0 by omega)
  have h2 := Int.lt_ediv_add_one_mul_self two hv
  by_cases c : 1073741823 < two / v1
  · rw [if_pos c] at eg
    have h3 : g * v1 ≤ two / v1 * v1 := Int.mul_le_mul_of_nonneg_right (by omega) (Int.le_of_lt hv)
    exact ⟨⟨by omega, by omega⟩, by omega, Or.inl eg⟩
  · rw [if_neg c] at eg
    rw [eg]
    exact ⟨⟨h0, by omega⟩, h1, Or.inr h2⟩
theorem s_Na_takeMultiple (hO : mOk M) (h : Nl M a Y Cy) (k : Nt M b X Cx n) (hn : 2 ≤ n) (hK : e + n < K) (hC : K ≤ Cy) (bY : b ≠ Y) (XY : X ≠ Y) (hL : lim M Y K) (top : 1073741824 ≤ 2 * mI M X (n - 1)) (hU : wn M Y e (n + 1) < dn (mI M X) n * 1073741824) : Ci G y_Na_takeMultiple (d + 1) [vr a, vr b, vi e] M (tmQ M Y K e n (wn M Y e (n + 1)) (dn (mI M X) n)) := by
  obtain ⟨⟨l0, p0, kX, nX, ⟨e1, e2⟩, -, y1, y2⟩, g1, g2, g3, g4⟩ := id k
  have cb := h.2.2.2.2.1.2
  obtain ⟨t, rfl⟩ : ∃ t, n = t + 2 := ⟨n - 2, by omega⟩
  have X1 := g3 (t + 1) (by omega)
  have X2 := g3 t (by omega)
  have Y1 := hL (e + (t + 2)) (by omega)
  have Y2 := hL (e + (t + 1)) (by omega)
  have Y3 := hL (e + t) (by omega)
  have b2 := two_bd Y1 Y2
  have eU : wn M Y e (t + 2 + 1) = ((mI M Y (e + (t + 2)) * 1073741824 + mI M Y (e + (t + 1))) * 1073741824 + mI M Y (e + t)) * 2 ^ (30 * t) + wn M Y e t := by
    show dn (fun j => mI M Y (e + j)) (t + 3) = _
    rw [lb_3]
    show wn M Y e t + 2 ^ (30 * t) * (mI M Y (e + t) + 1073741824 * (mI M Y (e + (t + 1)) + 1073741824 * mI M Y (e + (t + 2)))) = _
    generalize (2 : Int) ^ (30 * t) = p
    rw [Int.mul_comm p, show mI M Y (e + t) + 1073741824 * (mI M Y (e + (t + 1)) + 1073741824 * mI M Y (e + (t + 2))) = (mI M Y (e + (t + 2)) * 1073741824 + mI M Y (e + (t + 1))) * 1073741824 + mI M Y (e + t) by omega]
    omega
  have eV : dn (mI M X) (t + 2) = (mI M X (t + 1) * 1073741824 + mI M X t) * 2 ^ (30 * t) + dn (mI M X) t := by
    show dn (mI M X) t + mI M X t * 2 ^ (30 * t) + mI M X (t + 1) * 2 ^ (30 * (t + 1)) = _
    rw [p30, Int.add_mul, Int.mul_assoc, Int.mul_comm 1073741824]
    omega
  have S : gsS (2 ^ (30 * t)) (wn M Y e (t + 2 + 1)) (dn (mI M X) (t + 2)) (mI M Y (e + (t + 2)) * 1073741824 + mI M Y (e + (t + 1))) (mI M Y (e + t)) (wn M Y e t) (mI M X (t + 1)) (mI M X t) (dn (mI M X) t) := ⟨p30p t, eU, eV, ⟨wn_nn hL (by omega), wn_lt hL (by omega)⟩, Y3, X2, ⟨dn_nn (fun j hj => g3 j (by omega)), dn_lt (fun j hj => g3 j (by omega))⟩, ⟨top, X1.2⟩, hU⟩
  have v1 : 0 < mI M X (t + 1) := by
    have : 1073741824 ≤ 2 * mI M X (t + 1) := top
    omega
  refine k_Na_takeMultiple hO ⟨by omega, by omega⟩ ?_
  rw [g1, p0, nX, h.2.1, h.2.2.2.1, show Int.toNat (((t + 2 : Nat) : Int) - 1) = t + 1 by omega, show ((e : Nat) : Int) + ((t + 2 : Nat) : Int) = ((e + (t + 2) : Nat) : Int) by omega, show Int.toNat (((e + (t + 2) : Nat) : Int) - 1) = e + (t + 1) by omega, Int.toNat_natCast, j_shl ⟨by omega, by omega⟩, Int.tdiv_eq_ediv_of_nonneg b2.1]
  generalize eg : (if 1073741823 < (mI M Y (e + (t + 2)) * 1073741824 + mI M Y (e + (t + 1))) / mI M X (t + 1) then 1073741823 else (mI M Y (e + (t + 2)) * 1073741824 + mI M Y (e + (t + 1))) / mI M X (t + 1)) = g
  obtain ⟨f1, f2, f3⟩ := g_first b2.1 v1 eg.symm
  have dl : (mI M Y (e + (t + 2)) * 1073741824 + mI M Y (e + (t + 1))) / mI M X (t + 1) ≤ mI M Y (e + (t + 2)) * 1073741824 + mI M Y (e + (t + 1)) := Int.ediv_le_self _ b2.1
  have dp := Int.ediv_nonneg b2.1 (Int.le_of_lt v1)
  refine ⟨l0, kX, by omega, h.1, h.2.2.1, by omega, by omega, ⟨by omega, by omega⟩, by omega, ⟨by omega, by omega⟩, ?_⟩
  obtain ⟨hP, -, -, ⟨ul0, ul1⟩, ⟨u20, u21⟩, hv2, hVl, hv1, hUV⟩ := id S
  have V0 : 0 < dn (mI M X) (t + 2) := by
    have h1 : 2 ^ (30 * (t + 1)) ≤ dn (mI M X) (t + 2) := dn_ge g3 (g4 (by omega))
    exact Int.lt_of_lt_of_le (p30p (t + 1)) h1
  refine s_tm68 S hO h k hn (by omega) rfl (by rw [show e + (t + 2) - 2 = e + t by omega]) (fun g' hg' q1 q0 => ?_) 2 0 g (by omega) (by omega) f1 (kn_up hP eU eV ul1 u21 hv2.1 hVl.1 hUV f1.1 f3) ?_ ?_
  · exact s_tm132 h k hK hC bY XY hg' hL rfl rfl V0 q1 q0 (t + 2) 0 0 M (by omega) (by omega) ⟨by decide, by decide⟩ hO FI.refl hL (fun _ _ => rfl) (by show _ + 0 * _ = _ - _ * (0 : Int); rw [Int.zero_mul, Int.mul_zero, Int.add_zero, Int.sub_zero])
  · rw [show g - 2 + ((0 : Nat) : Int) = g - 2 by omega]
    exact kn_dn hP eU eV ul0 u20 hv2 hVl hv1.1 f1 f2
  · have := kn_rest hP eU eV ul0 u20 hv2.2 hVl.2 hv1.2 hUV f2 f3
    exact ⟨this.1, by omega⟩
end NAJ
