section
/-! The class's natural numbers: the guess, and the step as a whole. -/
section NAJ
variable {G : mG} {d a b c Y Cy s n m X Cx w K e : Nat} {M M' M1 M2 M3 : mM} {v U V g : Int}
theorem g_bd {g v2 : Int} (hg : 0 ≤ g ∧ g < 1073741824) (h : 0 ≤ v2 ∧ v2 < 1073741824) : i64 (g * v2) := by
  have h1 := Int.mul_nonneg hg.1 h.1
  have h2 : g * v2 ≤ 1073741823 * v2 := Int.mul_le_mul_of_nonneg_right (by omega) h.1
  unfold i64
  omega
/-- what the guess stands on -/
def gsS (P U V two u2 Ul v1 v2 Vl : Int) : Prop := 0 < P ∧ U = (two * 1073741824 + u2) * P + Ul ∧ V = (v1 * 1073741824 + v2) * P + Vl ∧ (0 ≤ Ul ∧ Ul < P) ∧ (0 ≤ u2 ∧ u2 < 1073741824) ∧ (0 ≤ v2 ∧ v2 < 1073741824) ∧ (0 ≤ Vl ∧ Vl < P) ∧ (1073741824 ≤ 2 * v1 ∧ v1 < 1073741824) ∧ U < V * 1073741824
theorem s_tm68 {P two u2 Ul v1 v2 Vl : Int} {Q : Int → mM → Prop} (S : gsS P U V two u2 Ul v1 v2 Vl) (hO : mOk M) (h : Nl M a Y Cy) (k : Nt M b X Cx n) (hn : 2 ≤ n) (hK : e + n < Cy) (e2 : mI M X (n - 2) = v2) (eu : mI M Y (e + n - 2) = u2) (hQ : ∀ g : Int, (0 ≤ g ∧ g < 1073741824) → U < (g + 1) * V → (g - 1) * V ≤ U → h_Na_takeMultiple_132 G d a b e n g 0 0 M Q) : ∀ (t i : Nat) (g : Int), 2 ≤ i + t → i ≤ 2 → (0 ≤ g ∧ g < 1073741824) → U < (g + 1) * V → (g - 2 + i) * V ≤ U → (0 ≤ two - g * v1 ∧ two - g * v1 < 2147483648 + i * 1073741824) → h_Na_takeMultiple_68 G d a b e n v1 g (two - g * v1) i M Q := by
  obtain ⟨hP, eU, eV, ⟨ul0, ul1⟩, ⟨u20, u21⟩, hv2, hVl, hv1, hUV⟩ := S
  obtain ⟨⟨l0, p0, kX, nX, ⟨e1, e2'⟩, -, y1, y2⟩, g1, g2, g3, g4⟩ := id k
  have cb := h.2.2.2.2.1.2
  intro t
  induction t with
  | zero =>
    intro i g h1 h2 hg q1 q0 hr
    have ei : i = 2 := by omega
    subst ei
    refine k_Na_takeMultiple_68 hO ⟨by omega, by omega⟩ ⟨by omega, by omega⟩ ⟨by omega, by omega⟩ ⟨by omega, by omega⟩ ⟨by omega, by omega⟩ ⟨by omega, by omega⟩ ⟨fun y => absurd (by omega) y, fun _ => hQ g hg q1 ?_, fun y => absurd (Or.inl (by omega)) y⟩
    have V0 : 0 ≤ V := by
      rw [eV]
      have := Int.mul_nonneg (show 0 ≤ v1 * 1073741824 + v2 by omega) (Int.le_of_lt hP)
      omega
    rw [show g - 2 + ((2 : Nat) : Int) = g by omega] at q0
    rw [Int.sub_mul, Int.one_mul]
    omega
  | succ t ih =>
    intro i g h1 h2 hg q1 q0 hr
    by_cases ei : i = 2
    · exact ih i g (by omega) h2 hg q1 q0 hr
    refine k_Na_takeMultiple_68 hO ⟨by omega, by omega⟩ ⟨by omega, by omega⟩ ⟨by omega, by omega⟩ ⟨by omega, by omega⟩ ⟨by omega, by omega⟩ ⟨by omega, by omega⟩ ?_
    rw [p0, nX, h.2.1, h.2.2.2.1, show Int.toNat (((n : Nat) : Int) - 2) = n - 2 by omega, show Int.toNat ((((e : Nat) : Int) + ((n : Nat) : Int)) - 2) = e + n - 2 by omega, e2, eu, j_shl ⟨by omega, by omega⟩]
    refine ⟨fun _ => ⟨l0, kX, by omega, h.1, h.2.2.1, by omega, g_bd hg hv2, ⟨by omega, by omega⟩⟩, fun y => ?_, fun y => ?_⟩
    · have y2 : g * v2 ≤ (two - g * v1) * 1073741824 + u2 := by
        rcases y with y | y
        · omega
        · exact j_cle.1 y
      exact hQ g hg q1 (kn_one hP eU eV ul0 hv2.1 hVl (by omega) hg y2)
    · have y2 : (two - g * v1) * 1073741824 + u2 < g * v2 := by
        refine Classical.byContradiction (fun u => y (Or.inr (j_cle.2 (by omega))))
      have gp : 1 ≤ g := by
        refine Classical.byContradiction (fun u => ?_)
        have g0 : g = 0 := by omega
        rw [g0, Int.zero_mul, Int.zero_mul] at y2
        rw [g0, Int.zero_mul] at hr
        omega
      have er : two - g * v1 + v1 = two - (g - 1) * v1 := by rw [Int.sub_mul, Int.one_mul]; omega
      rw [er, show ((i : Int) + 1) = ((i + 1 : Nat) : Int) by omega]
      refine ih (i + 1) (g - 1) (by omega) (by omega) ⟨by omega, by omega⟩ (kn_dec hP eU eV ul1 hVl.1 hg.1 y2) ?_ ⟨by omega, by omega⟩
      rw [show g - 1 - 2 + ((i + 1 : Nat) : Int) = g - 2 + (i : Int) by omega]
      exact q0
theorem two_bd {x y : Int} (hx : 0 ≤ x ∧ x < 1073741824) (hy : 0 ≤ y ∧ y < 1073741824) : 0 ≤ x * 1073741824 + y ∧ x * 1073741824 + y < 1152921504606846976 := by omega
/-- the first guess -/
theorem g_first {two v1 g : Int} (ht : 0 ≤ two) (hv : 0 < v1) (eg : g = if 1073741823 < two / v1 then 1073741823 else two / v1) : (0 ≤ g ∧ g < 1073741824) ∧ g * v1 ≤ two ∧ (g = 1073741823 ∨ two < (g + 1) * v1) := by
  have h0 := Int.ediv_nonneg ht (Int.le_of_lt hv)
  have h1 := Int.ediv_mul_le two (show v1 ≠ 0 by omega)
  have h2 := Int.lt_ediv_add_one_mul_self two hv
  by_cases c : 1073741823 < two / v1
  · rw [if_pos c] at eg
    have h3 : g * v1 ≤ two / v1 * v1 := Int.mul_le_mul_of_nonneg_right (by omega) (Int.le_of_lt hv)
    exact ⟨⟨by omega, by omega⟩, by omega, Or.inl eg⟩
  · rw [if_neg c] at eg
    rw [eg]
    exact ⟨⟨h0, by omega⟩, h1, Or.inr h2⟩
theorem s_Na_takeMultiple (hO : mOk M) (h : Nl M a Y Cy) (k : Nt M b X Cx n) (hn : 2 ≤ n) (hK : e + n < K) (hC : K ≤ Cy) (bY : b ≠ Y) (XY : X ≠ Y) (hL : lim M Y K) (top : 1073741824 ≤ 2 * mI M X (n - 1)) (hU : wn M Y e (n + 1) < dn (mI M X) n * 1073741824) : Ci G y_Na_takeMultiple (d + 1) [vr a, vr b, vi e] M (tmQ M Y K e n (wn M Y e (n + 1)) (dn (mI M X) n)) := by
  obtain ⟨⟨l0, p0, kX, nX, ⟨e1, e2⟩, -, y1, y2⟩, g1, g2, g3, g4⟩ := id k
  have cb := h.2.2.2.2.1.2
  obtain ⟨t, rfl⟩ : ∃ t, n = t + 2 := ⟨n - 2, by omega⟩
  have X1 := g3 (t + 1) (by omega)
  have X2 := g3 t (by omega)
  have Y1 := hL (e + (t + 2)) (by omega)
  have Y2 := hL (e + (t + 1)) (by omega)
  have Y3 := hL (e + t) (by omega)
  have b2 := two_bd Y1 Y2
  have eU : wn M Y e (t + 2 + 1) = ((mI M Y (e + (t + 2)) * 1073741824 + mI M Y (e + (t + 1))) * 1073741824 + mI M Y (e + t)) * 2 ^ (30 * t) + wn M Y e t := by
    show dn (fun j => mI M Y (e + j)) (t + 3) = _
    rw [lb_3]
    show wn M Y e t + 2 ^ (30 * t) * (mI M Y (e + t) + 1073741824 * (mI M Y (e + (t + 1)) + 1073741824 * mI M Y (e + (t + 2)))) = _
    generalize (2 : Int) ^ (30 * t) = p
    rw [Int.mul_comm p, show mI M Y (e + t) + 1073741824 * (mI M Y (e + (t + 1)) + 1073741824 * mI M Y (e + (t + 2))) = (mI M Y (e + (t + 2)) * 1073741824 + mI M Y (e + (t + 1))) * 1073741824 + mI M Y (e + t) by omega]
    omega
  have eV : dn (mI M X) (t + 2) = (mI M X (t + 1) * 1073741824 + mI M X t) * 2 ^ (30 * t) + dn (mI M X) t := by
    show dn (mI M X) t + mI M X t * 2 ^ (30 * t) + mI M X (t + 1) * 2 ^ (30 * (t + 1)) = _
    rw [p30, Int.add_mul, Int.mul_assoc, Int.mul_comm 1073741824]
    omega
  have S : gsS (2 ^ (30 * t)) (wn M Y e (t + 2 + 1)) (dn (mI M X) (t + 2)) (mI M Y (e + (t + 2)) * 1073741824 + mI M Y (e + (t + 1))) (mI M Y (e + t)) (wn M Y e t) (mI M X (t + 1)) (mI M X t) (dn (mI M X) t) := ⟨p30p t, eU, eV, ⟨wn_nn hL (by omega), wn_lt hL (by omega)⟩, Y3, X2, ⟨dn_nn (fun j hj => g3 j (by omega)), dn_lt (fun j hj => g3 j (by omega))⟩, ⟨top, X1.2⟩, hU⟩
  have v1 : 0 < mI M X (t + 1) := by
    have : 1073741824 ≤ 2 * mI M X (t + 1) := top
    omega
  refine k_Na_takeMultiple hO ⟨by omega, by omega⟩ ?_
  rw [g1, p0, nX, h.2.1, h.2.2.2.1, show Int.toNat (((t + 2 : Nat) : Int) - 1) = t + 1 by omega, show ((e : Nat) : Int) + ((t + 2 : Nat) : Int) = ((e + (t + 2) : Nat) : Int) by omega, show Int.toNat (((e + (t + 2) : Nat) : Int) - 1) = e + (t + 1) by omega, Int.toNat_natCast, j_shl ⟨by omega, by omega⟩, Int.tdiv_eq_ediv_of_nonneg b2.1]
  generalize eg : (if 1073741823 < (mI M Y (e + (t + 2)) * 1073741824 + mI M Y (e + (t + 1))) / mI M X (t + 1) then 1073741823 else (mI M Y (e + (t + 2)) * 1073741824 + mI M Y (e + (t + 1))) / mI M X (t + 1)) = g
  obtain ⟨f1, f2, f3⟩ := g_first b2.1 v1 eg.symm
  have dl : (mI M Y (e + (t + 2)) * 1073741824 + mI M Y (e + (t + 1))) / mI M X (t + 1) ≤ mI M Y (e + (t + 2)) * 1073741824 + mI M Y (e + (t + 1)) := Int.ediv_le_self _ b2.1
  have dp := Int.ediv_nonneg b2.1 (Int.le_of_lt v1)
  refine ⟨l0, kX, by omega, h.1, h.2.2.1, by omega, by omega, ⟨by omega, by omega⟩, by omega, ⟨by omega, by omega⟩, ?_⟩
  obtain ⟨hP, -, -, ⟨ul0, ul1⟩, ⟨u20, u21⟩, hv2, hVl, hv1, hUV⟩ := id S
  have V0 : 0 < dn (mI M X) (t + 2) := by
    have h1 : 2 ^ (30 * (t + 1)) ≤ dn (mI M X) (t + 2) := dn_ge g3 (g4 (by omega))
    exact Int.lt_of_lt_of_le (p30p (t + 1)) h1
  refine s_tm68 S hO h k hn (by omega) rfl (by rw [show e + (t + 2) - 2 = e + t by omega]) (fun g' hg' q1 q0 => ?_) 2 0 g (by omega) (by omega) f1 (kn_up hP eU eV ul1 u21 hv2.1 hVl.1 hUV f1.1 f3) ?_ ?_
  · exact s_tm132 h k hK hC bY XY hg' hL rfl rfl V0 q1 q0 (t + 2) 0 0 M (by omega) (by omega) ⟨by decide, by decide⟩ hO FI.refl hL (fun _ _ => rfl) (by show _ + 0 * _ = _ - _ * (0 : Int); rw [Int.zero_mul, Int.mul_zero, Int.add_zero, Int.sub_zero])
  · rw [show g - 2 + ((0 : Nat) : Int) = g - 2 by omega]
    exact kn_dn hP eU eV ul0 u20 hv2 hVl hv1.1 f1 f2
  · have := kn_rest hP eU eV ul0 u20 hv2.2 hVl.2 hv1.2 hUV f2 f3
    exact ⟨this.1, by omega⟩
end NAJ
end
section
/-! The class's natural numbers as a family: L their places, W how many limbs each may want. -/
section NAK
variable {G : mG} {d a b c Y Cy s n m X Cx w : Nat} {M M' M1 M2 M3 : mM} {v : Int} {L : List Nat} {W : Nat → Nat} {T T' : Nat → Prop}
def Nn (M : mM) (a : Nat) : Prop := ∃ s, Nt M a (mR M a 0) (cp M a) s
/-- how many limbs -/
def sz (M : mM) (a : Nat) : Nat := Int.toNat (mI M a 1)
/-- its value -/
def nv (M : mM) (a : Nat) : Int := dn (mI M (mR M a 0)) (sz M a)
def NF (L : List Nat) (W : Nat → Nat) (M : mM) : Prop := L.Nodup ∧ (∀ a, a ∈ L → Nn M a ∧ cp M a ≤ 2 * W a ∧ (2 ≤ W a ∧ W a ≤ 20000)) ∧ (∀ a b, a ∈ L → b ∈ L → mR M a 0 = mR M b 0 → a = b)
/-- the cells of the numbers of T -/
def nsS (M : mM) (T : Nat → Prop) (x : Nat) : Prop := T x ∨ ∃ t, T t ∧ x = mR M t 0
def RmN (L : List Nat) (M M' : mM) : Prop := mS M' + 2 * psum (cp M) L ≤ mS M + 2 * psum (cp M') L ∧ mZ M' + psum (fun p => cp M p / 4) L ≤ mZ M + psum (fun p => cp M' p / 4) L
/-- the numbers of T have changed -/
def NC (L : List Nat) (W : Nat → Nat) (T : Nat → Prop) (M M' : mM) : Prop := (mOk M' ∧ NF L W M') ∧ (∀ t, T t → t ∈ L) ∧ FA (nsS M T) T M M' ∧ (∀ t, T t → mR M' t 0 = mR M t 0 ∨ mZ M ≤ mR M' t 0) ∧ RmN L M M'
theorem Nt.sz (h : Nt M a Y Cy s) : sz M a = s := by unfold Jvm.Pilot.CChanceArenaLaw_law_r5065_9eccd7.sz; rw [h.2.1, Int.toNat_natCast]
theorem Nt.cp (h : Nt M a Y Cy s) : cp M a = Cy := by unfold Jvm.Pilot.CChanceArenaLaw_law_r5065_9eccd7.cp; rw [h.1.2.1, h.1.2.2.2.1]
theorem Nt.nn (h : Nt M a Y Cy s) : Nn M a := ⟨s, by rw [h.cp, h.1.2.1]; exact h⟩
theorem Nt.nv (h : Nt M a Y Cy s) : nv M a = dn (mI M Y) s := by unfold Jvm.Pilot.CChanceArenaLaw_law_r5065_9eccd7.nv; rw [h.sz, h.1.2.1]
theorem NF.nt (h : NF L W M) (ha : a ∈ L) : Nt M a (mR M a 0) (cp M a) (sz M a) := by
  obtain ⟨s, t⟩ := (h.2.1 a ha).1
  have e := t.sz
  rw [e]
  exact t
theorem NF.cb (h : NF L W M) (ha : a ∈ L) : cp M a ≤ 40000 := by have := h.2.1 a ha; omega
theorem NF.sc (h : NF L W M) (ha : a ∈ L) : sz M a ≤ cp M a := (h.nt ha).2.2.1
theorem NF.ne (h : NF L W M) (ha : a ∈ L) (hb : b ∈ L) (ab : a ≠ b) : mR M a 0 ≠ mR M b 0 := fun u => ab (h.2.2 a b ha hb u)
theorem NF.lt (h : NF L W M) (ha : a ∈ L) : a < mZ M ∧ mR M a 0 < mZ M := (h.nt ha).1.2.2.2.2.2.2
theorem NF.kd (h : NF L W M) (ha : a ∈ L) : mK M a = 10 := (h.nt ha).1.1
theorem NF.ka (h : NF L W M) (ha : a ∈ L) : mK M (mR M a 0) = 30 := (h.nt ha).1.2.2.1
/-- a number is no other's limbs -/
theorem NF.na (h : NF L W M) (ha : a ∈ L) (hb : b ∈ L) : a ≠ mR M b 0 := fun u => by
  have h1 := h.kd ha
  have h2 := h.ka hb
  rw [u, h2] at h1
  omega
theorem NF.nn0 (h : NF L W M) (ha : a ∈ L) : 0 ≤ nv M a := dn_nn (h.nt ha).2.2.2.1
theorem NF.vlt (h : NF L W M) (ha : a ∈ L) : nv M a < 2 ^ (30 * sz M a) := dn_lt (h.nt ha).2.2.2.1
/-- few limbs by a small value -/
theorem NF.szv (h : NF L W M) (ha : a ∈ L) (hv : nv M a < 2 ^ (30 * n)) : sz M a ≤ n := dn_sz (h.nt ha).2.2.2.1 (h.nt ha).2.2.2.2 hv
theorem NF.sz0 (h : NF L W M) (ha : a ∈ L) : sz M a = 0 ↔ nv M a = 0 := by
  constructor
  · intro u
    unfold nv
    rw [u]
    rfl
  · intro u
    have := h.szv (n := 0) ha (by rw [u]; decide)
    omega
theorem NF.sw (h : NF L W M) (ha : a ∈ L) : 2 ≤ W a ∧ W a ≤ 20000 := (h.2.1 a ha).2.2
theorem RmN.refl : RmN L M M := ⟨Nat.le_refl _, Nat.le_refl _⟩
theorem RmN.trans (h : RmN L M M1) (k : RmN L M1 M2) : RmN L M M2 := by
  obtain ⟨h1, h2⟩ := h
  obtain ⟨k1, k2⟩ := k
  exact ⟨by omega, by omega⟩
theorem NC.refl (hO : mOk M) (h : NF L W M) (hT : ∀ t, T t → t ∈ L) : NC L W T M M := ⟨⟨hO, h⟩, hT, FA.refl, fun _ _ => Or.inl rfl, RmN.refl⟩
theorem NC.trans (h : NC L W T M M1) (k : NC L W T M1 M2) : NC L W T M M2 := by
  obtain ⟨-, h2, h3, h4, h5⟩ := h
  obtain ⟨k1, -, k3, k4, k5⟩ := k
  refine ⟨k1, h2, h3.trans2 k3 ?_ (fun _ _ y => y), fun t ht => ?_, h5.trans k5⟩
  · intro x hx u
    rcases u with u | ⟨t, ht, u⟩
    · exact Or.inl u
    · rcases h4 t ht with q | q
      · exact Or.inr ⟨t, ht, by rw [u, q]⟩
      · omega
  · rcases k4 t ht with q | q
    · rw [q]; exact h4 t ht
    · exact Or.inr (Nat.le_trans h3.1.1 q)
theorem NC.mono (h : NC L W T M M1) (hT : ∀ t, T t → T' t) (hL : ∀ t, T' t → t ∈ L) (hr : NF L W M) : NC L W T' M M1 := by
  obtain ⟨h1, h2, h3, h4, h5⟩ := h
  refine ⟨h1, hL, h3.mono (fun x _ u => ?_) (fun x _ u => hT x u), fun t ht => ?_, h5⟩
  · rcases u with u | ⟨t, ht, u⟩
    · exact Or.inl (hT x u)
    · exact Or.inr ⟨t, hT t ht, u⟩
  · by_cases c : T t
    · exact h4 t c
    · refine Or.inl ?_
      rw [(h3.2 t (hr.lt (hL t ht)).1).2.2.2.1 c]
/-- what is not of T stays -/
theorem NC.num (h : NC L W T M M') (hF : NF L W M) (hb : b ∈ L) (hT : ¬ T b) : mR M' b = mR M b ∧ mI M' b = mI M b ∧ mI M' (mR M b 0) = mI M (mR M b 0) ∧ sz M' b = sz M b ∧ nv M' b = nv M b ∧ cp M' b = cp M b := by
  obtain ⟨-, h2, h3, h4, -⟩ := h
  obtain ⟨z1, z2⟩ := hF.lt hb
  have n1 : ¬ nsS M T b := by
    rintro (u | ⟨t, ht, u⟩)
    · exact hT u
    · exact hF.na hb (h2 t ht) u
  have n2 : ¬ nsS M T (mR M b 0) := by
    rintro (u | ⟨t, ht, u⟩)
    · exact hF.na (h2 _ u) hb rfl
    · exact hT (by rw [hF.2.2 b t hb (h2 t ht) u]; exact ht)
  have a1 := (h3.2 b z1).2.2.2.1 hT
  have a2 := (h3.2 b z1).2.2.2.2 n1
  have a3 := (h3.2 _ z2).2.2.2.2 n2
  have a4 : sz M' b = sz M b := by unfold sz; rw [a2]
  refine ⟨a1, a2, a3, a4, ?_, ?_⟩
  · unfold nv
    rw [a4, a1, a3]
  · unfold cp
    rw [a1, (h3.2 _ z2).2.1]
theorem NC.nf (h : NC L W T M M') : NF L W M' := h.1.2
theorem NC.ok (h : NC L W T M M') : mOk M' := h.1.1
/-- one number's step -/
theorem NF.step (hF : NF L W M) (ha : a ∈ L) (hw : w ≤ W a) (h : nst M a (mR M a 0) (cp M a) w v M') : NC L W (fun x => x = a) M M' ∧ nv M' a = v := by
  obtain ⟨o, Y', C', s', t, e, F, g⟩ := h
  have W1 := hF.2.1 a ha
  have z := hF.lt ha
  have C4 : 4 ≤ cp M a := (hF.nt ha).1.2.2.2.2.1.1
  have F' : FA (nsS M (fun x => x = a)) (fun x => x = a) M M' := F.mono (fun x _ u => by
    rcases u with u | u
    · exact Or.inl u
    · exact Or.inr ⟨a, rfl, u⟩) (fun _ _ u => u)
  have ra : mR M' a 0 = Y' := t.1.2.1
  have ca : cp M' a = C' := t.cp
  have old : ∀ b, b ∈ L → b ≠ a → mR M' b 0 = mR M b 0 ∧ cp M' b = cp M b ∧ ∃ s, Nt M' b (mR M b 0) (cp M b) s := by
    intro b hb ba
    have zb := hF.lt hb
    have rb : mR M' b 0 = mR M b 0 := by rw [(F.2 b zb.1).2.2.2.1 ba]
    have n1 : ¬ (b = a ∨ b = mR M a 0) := by
      rintro (u | u)
      · exact ba u
      · exact hF.na hb ha u
    have n2 : ¬ (mR M b 0 = a ∨ mR M b 0 = mR M a 0) := by
      rintro (u | u)
      · exact hF.na ha hb u.symm
      · exact hF.ne hb ha ba u
    exact ⟨rb, by unfold cp; rw [rb, (F.2 _ zb.2).2.1], sz M b, (hF.nt hb).fa F n1 n2 ba⟩
  have ps1 := psum_one (f := cp M) (g := cp M') (p := a) L hF.1 ha (fun q hq hqa => (old q hq hqa).2.1)
  have ps2 := psum_one (f := fun p => cp M p / 4) (g := fun p => cp M' p / 4) (p := a) L hF.1 ha (fun q hq hqa => by show cp M' q / 4 = cp M q / 4; rw [(old q hq hqa).2.1])
  have g2 : (Y' = mR M a 0 ∨ mZ M ≤ Y') ∧ C' ≤ 2 * W a ∧ mS M' + 2 * cp M a ≤ mS M + 2 * C' ∧ mZ M' + cp M a / 4 ≤ mZ M + C' / 4 := by
    rcases g with ⟨g1, g2, g3, g4⟩ | ⟨g1, g2, g3, g4, g5⟩
    · exact ⟨Or.inl g1, by omega, by omega, by omega⟩
    · exact ⟨Or.inr (by omega), by omega, by omega, by omega⟩
  refine ⟨⟨⟨o, hF.1, fun b hb => ?_, fun b c hb hc u => ?_⟩, fun t ht => by rw [ht]; exact ha, F', fun t ht => by rw [ht, ra]; exact g2.1, ?_⟩, ?_⟩
  · by_cases ba : b = a
    · rw [ba]
      exact ⟨t.nn, by rw [ca]; exact g2.2.1, W1.2.2⟩
    · obtain ⟨r1, r2, s, ts⟩ := old b hb ba
      exact ⟨ts.nn, by rw [r2]; exact (hF.2.1 b hb).2.1, (hF.2.1 b hb).2.2⟩
  · by_cases ba : b = a
    · by_cases cca : c = a
      · rw [ba, cca]
      · rw [ba, ra, (old c hc cca).1] at u
        have zc := hF.lt hc
        rcases g2.1 with q | q
        · rw [ba]
          exact hF.2.2 a c ha hc (by rw [← q]; exact u)
        · omega
    · by_cases cca : c = a
      · rw [cca, ra, (old b hb ba).1] at u
        have zc := hF.lt hb
        rcases g2.1 with q | q
        · rw [cca]
          exact hF.2.2 b a hb ha (by rw [← q]; exact u)
        · omega
      · rw [(old b hb ba).1, (old c hc cca).1] at u
        exact hF.2.2 b c hb hc u
  · rw [ca] at ps1
    have ps2' : psum (fun p => cp M' p / 4) L + cp M a / 4 = psum (fun p => cp M p / 4) L + C' / 4 := by rw [← ca]; exact ps2
    exact ⟨by omega, by omega⟩
  · rw [t.nv]
    exact e
/-- ints of the numbers of T have changed -/
theorem NF.chg (hF : NF L W M) (hT : ∀ t, T t → t ∈ L) (f : FI (nsS M T) M M') (o : mOk M') (hn : ∀ t, T t → ∃ s, Nt M' t (mR M t 0) (cp M t) s) : NC L W T M M' := by
  have rr : ∀ b, mR M' b 0 = mR M b 0 := fun b => by rw [f.2.2.1]
  have cc : ∀ b, cp M' b = cp M b := fun b => by unfold cp; rw [f.2.2.1, f.2.1]
  refine ⟨⟨o, hF.1, fun b hb => ?_, fun b c hb hc u => ?_⟩, hT, f.fa, fun t _ => Or.inl (rr t), ?_⟩
  · refine ⟨?_, by rw [cc]; exact (hF.2.1 b hb).2.1, (hF.2.1 b hb).2.2⟩
    by_cases c : T b
    · obtain ⟨s, t⟩ := hn b c
      exact t.nn
    · refine ((hF.nt hb).fi f ?_ ?_).nn
      · rintro (u | ⟨t, ht, u⟩)
        · exact c u
        · exact hF.na hb (hT t ht) u
      · rintro (u | ⟨t, ht, u⟩)
        · exact hF.na (hT _ u) hb rfl
        · exact c (by rw [hF.2.2 b t hb (hT t ht) u]; exact ht)
  · rw [rr, rr] at u
    exact hF.2.2 b c hb hc u
  · unfold RmN
    rw [show cp M' = cp M from funext cc, f.2.2.2.2.1, f.2.2.2.2.2.1]
    exact ⟨Nat.le_refl _, Nat.le_refl _⟩
end NAK
end
