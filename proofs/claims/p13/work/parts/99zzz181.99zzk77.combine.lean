/-! The family: both numbers become sums of their multiples. -/
section NAP
variable {G : mG} {d a b c q e Y Cy s n m X Cx w : Nat} {M M' M1 M2 M3 : mM} {v : Int} {L : List Nat} {W : Nat → Nat} {T T' : Nat → Prop}
theorem cb_bd {f g u v c : Int} (hf : -1073741824 < f ∧ f < 1073741824) (hg : -1073741824 < g ∧ g < 1073741824) (hu : 0 ≤ u ∧ u < 1073741824) (hv : 0 ≤ v ∧ v < 1073741824) (hc : -4294967296 ≤ c ∧ c ≤ 4294967296) : i64 (c + (f * u + g * v)) ∧ -4294967296 ≤ (c + (f * u + g * v)) / 1073741824 ∧ (c + (f * u + g * v)) / 1073741824 ≤ 4294967296 := by
  have a1 : f * u ≤ 1073741823 * u := Int.mul_le_mul_of_nonneg_right (by omega) hu.1
  have a2 : -1073741823 * u ≤ f * u := Int.mul_le_mul_of_nonneg_right (by omega) hu.1
  have a3 : g * v ≤ 1073741823 * v := Int.mul_le_mul_of_nonneg_right (by omega) hv.1
  have a4 : -1073741823 * v ≤ g * v := Int.mul_le_mul_of_nonneg_right (by omega) hv.1
  unfold i64
  omega
theorem c32 {c : Int} (h : -4294967296 ≤ c ∧ c ≤ 4294967296) : i64 c := ⟨by omega, by omega⟩
/-- small factors -/
def fac (x : Int) : Prop := -1073741824 < x ∧ x < 1073741824
def cbQ (M : mM) (a Y Cy b X Cx : Nat) (u v : Int) (M' : mM) : Prop := mOk M' ∧ FI (fun x => (x = a ∨ x = Y) ∨ (x = b ∨ x = X)) M M' ∧ ∃ s t, Nt M' a Y Cy s ∧ Nt M' b X Cx t ∧ dn (mI M' Y) s = u ∧ dn (mI M' X) t = v
theorem s_cb32 {f0 f1 f2 f3 A B : Int} (h : Nl M a Y Cy) (k : Nl M b X Cx) (hn : n ≤ Cy) (hm : n ≤ Cx) (ab : a ≠ b) (YX : Y ≠ X) (kc : mK M c = 33) (nc : mN M c = 4) (e0 : mL M c 0 = f0) (e1 : mL M c 1 = f1) (e2 : mL M c 2 = f2) (e3 : mL M c 3 = f3) (b0 : fac f0) (b1 : fac f1) (b2 : fac f2) (b3 : fac f3) (hL : lim M Y n) (hX : lim M X n) (eA : A = dn (mI M Y) n) (eB : B = dn (mI M X) n) (g0 : 0 ≤ f0 * A + f1 * B ∧ f0 * A + f1 * B < 2 ^ (30 * n)) (g1 : 0 ≤ f2 * A + f3 * B ∧ f2 * A + f3 * B < 2 ^ (30 * n)) : ∀ (t i : Nat) (c1 c2 : Int) (M1 : mM), n ≤ i + t → i ≤ n → (-4294967296 ≤ c1 ∧ c1 ≤ 4294967296) → (-4294967296 ≤ c2 ∧ c2 ≤ 4294967296) → mOk M1 → FI (fun x => x = Y ∨ x = X) M M1 → lim M1 Y n → lim M1 X n → (∀ j, i ≤ j → mI M1 Y j = mI M Y j) → (∀ j, i ≤ j → mI M1 X j = mI M X j) → dn (mI M1 Y) n + c1 * 2 ^ (30 * i) = dn (mI M Y) n - dn (mI M Y) i + f0 * dn (mI M Y) i + f1 * dn (mI M X) i → dn (mI M1 X) n + c2 * 2 ^ (30 * i) = dn (mI M X) n - dn (mI M X) i + f2 * dn (mI M Y) i + f3 * dn (mI M X) i → h_Na_combine_32 G d a b c n c1 c2 i M1 (cbQ M a Y Cy b X Cx (f0 * A + f1 * B) (f2 * A + f3 * B)) := by
  have aY : a ≠ Y := h.2.2.2.2.2.1
  have bX : b ≠ X := k.2.2.2.2.2.1
  have aX : a ≠ X := fun u => by have h1 := h.1; have h2 := k.2.2.1; rw [u, h2] at h1; omega
  have bY : b ≠ Y := fun u => by have h1 := k.1; have h2 := h.2.2.1; rw [u, h2] at h1; omega
  have cb := h.2.2.2.2.1.2
  intro t
  induction t with
  | zero =>
    intro i c1 c2 M1 h1 h2 p1 p2 o F LY LX EY EX V1 V2
    have ei : i = n := by omega
    subst ei
    rw [show dn (mI M Y) i - dn (mI M Y) i + f0 * dn (mI M Y) i + f1 * dn (mI M X) i = f0 * A + f1 * B by rw [eA, eB]; omega] at V1
    rw [show dn (mI M X) i - dn (mI M X) i + f2 * dn (mI M Y) i + f3 * dn (mI M X) i = f2 * A + f3 * B by rw [eA, eB]; omega] at V2
    have z1 := tm_hi (V := 0) ⟨dn_nn LY, dn_lt LY⟩ V1.symm g0
    have z2 := tm_hi (V := 0) ⟨dn_nn LX, dn_lt LX⟩ V2.symm g1
    rw [z1, Int.zero_mul, Int.add_zero] at V1
    rw [z2, Int.zero_mul, Int.add_zero] at V2
    refine k_Na_combine_32 o ⟨by omega, by omega⟩ (c32 p1) (c32 p2) ⟨by omega, by omega⟩ ⟨fun _ => ⟨by rw [F.1]; exact h.1, (s_Na_trim o (h.fi F) hn LY).mono (fun M13 q => ?_)⟩, fun y => absurd (Int.le_refl _) y⟩
    obtain ⟨o13, F13, -, s, -, T13, v13⟩ := q
    have F2 := (F.mono (S' := fun x => (x = a ∨ x = Y) ∨ (x = b ∨ x = X)) (fun _ u => u.elim (fun u => Or.inl (Or.inr u)) (fun u => Or.inr (Or.inr u)))).trans (F13.mono (fun _ u => Or.inl (Or.inl u)))
    have x13 : mI M13 X = mI M1 X := F13.2.2.2.2.2.2 X (fun u => aX u.symm)
    refine ⟨o13, by rw [F2.1]; exact k.1, (s_Na_trim o13 (k.fi F2) hm (fun j hj => by rw [x13]; exact LX j hj)).mono (fun M17 q => ?_)⟩
    obtain ⟨o17, F17, -, s', -, T17, v17⟩ := q
    have T13' := T13.fi F17 (fun u => ab u) (fun u => bY u.symm)
    refine ⟨o17, o17, F2.trans (F17.mono (fun _ u => Or.inr (Or.inl u))), s, s', T13', T17, ?_, ?_⟩
    · rw [F17.2.2.2.2.2.2 Y (fun u => bY u.symm), v13, V1]
    · rw [v17, x13, V2]
  | succ t ih =>
    intro i c1 c2 M1 h1 h2 p1 p2 o F LY LX EY EX V1 V2
    by_cases ei : i = n
    · exact ih i c1 c2 M1 (by omega) h2 p1 p2 o F LY LX EY EX V1 V2
    have li : i < n := by omega
    have yi : mI M1 Y i = mI M Y i := EY i (Nat.le_refl _)
    have xi : mI M1 X i = mI M X i := EX i (Nat.le_refl _)
    obtain ⟨w1, w2, w3⟩ := cb_bd b0 b1 (hL i li) (hX i li) p1
    obtain ⟨u1, u2, u3⟩ := cb_bd b2 b3 (hL i li) (hX i li) p2
    refine k_Na_combine_32 o ⟨by omega, by omega⟩ (c32 p1) (c32 p2) ⟨by omega, by omega⟩ ⟨fun y => absurd y (by omega), fun y => ?_⟩
    rw [F.1, F.2.1, F.2.2.1, F.2.2.2.1, h.2.1, h.2.2.2.1, k.2.1, k.2.2.2.1, nc, e0, e1, e2, e3, Int.toNat_natCast, yi, xi, j_and, j_and, j_shr w1, j_shr u1]
    refine ⟨h.1, h.2.2.1, by omega, k.1, k.2.2.1, by omega, kc, ⟨by decide, by decide⟩, ⟨by decide, by decide⟩, ⟨by decide, by decide⟩, ⟨by decide, by decide⟩, by omega, m30i _, fun M33 e33 => ?_⟩
    have F33 : FI (fun x => x = Y) M1 M33 := by rw [e33]; exact FI.ui rfl
    rw [F33.1, F33.2.1, F33.2.2.1, F.1, F.2.1, F.2.2.1, k.2.1, k.2.2.2.1]
    refine ⟨k.2.2.1, by omega, m30i _, fun M38 e38 => ?_⟩
    have F38 : FI (fun x => x = X) M33 M38 := by rw [e38]; exact FI.ui rfl
    have y38 : mI M38 Y = mI M33 Y := F38.2.2.2.2.2.2 Y YX
    have x33 : mI M33 X = mI M1 X := F33.2.2.2.2.2.2 X (fun u => YX u.symm)
    have o33 : mOk M33 := by rw [e33]; exact mOk_UI o (m30i _)
    rw [show ((i : Int) + 1) = ((i + 1 : Nat) : Int) by omega]
    have d1 := c_st (i := i) (dn_ui (M' := M33) (n := n) li e33)
    have d2 := c_st (i := i) (dn_ui (M' := M38) (n := n) li e38)
    rw [yi] at d1
    rw [x33, xi] at d2
    refine ih (i + 1) _ _ M38 (by omega) (by omega) ⟨w2, w3⟩ ⟨u2, u3⟩ (by rw [e38]; exact mOk_UI o33 (m30i _)) ((F.trans (F33.mono (fun _ u => Or.inl u))).trans (F38.mono (fun _ u => Or.inr u))) (fun j hj => by rw [y38]; exact lim_ui LY (m30 _) e33 j hj) (lim_ui (fun j hj => by rw [x33]; exact LX j hj) (m30 _) e38) (fun j hj => by rw [y38, mI_ui Y j e33, if_neg (fun u => by omega)]; exact EY j (by omega)) (fun j hj => by rw [mI_ui X j e38, if_neg (fun u => by omega), x33]; exact EX j (by omega)) ?_ ?_
    · rw [y38, d1, dn_s (mI M Y) i, dn_s (mI M X) i]
      exact al_cmb V1
    · rw [d2, dn_s (mI M Y) i, dn_s (mI M X) i]
      exact al_cmb2 V2
theorem hm_cb {l c1 c2 i : Int} {Q Q' : mM → Prop} (h : h_Na_combine_32 G d a b c l c1 c2 i M Q) (hq : ∀ M', Q M' → Q' M') : h_Na_combine_32 G d a b c l c1 c2 i M Q' := by
  unfold h_Na_combine_32 at h ⊢
  exact mWm.mono h (fun r M' k => ⟨k.1, hq M' k.2⟩)
/-- both become sums -/
theorem f_combine {f0 f1 f2 f3 : Int} (hO : mOk M) (hF : NF L W M) (ha : a ∈ L) (hb : b ∈ L) (ab : a ≠ b) (hs : sz M b ≤ sz M a) (wb : sz M a ≤ W b) (kc : mK M c = 33) (nc : mN M c = 4) (zc : c < mZ M) (e0 : mL M c 0 = f0) (e1 : mL M c 1 = f1) (e2 : mL M c 2 = f2) (e3 : mL M c 3 = f3) (b0 : fac f0) (b1 : fac f1) (b2 : fac f2) (b3 : fac f3) (g0 : 0 ≤ f0 * nv M a + f1 * nv M b ∧ f0 * nv M a + f1 * nv M b < 2 ^ (30 * sz M a)) (g1 : 0 ≤ f2 * nv M a + f3 * nv M b ∧ f2 * nv M a + f3 * nv M b < 2 ^ (30 * sz M a)) : Cv G y_Na_combine (d + 3) [vr a, vr b, vr c] M (fun M' => NC L W (fun x => x = a ∨ x = b) M M' ∧ nv M' a = f0 * nv M a + f1 * nv M b ∧ nv M' b = f2 * nv M a + f3 * nv M b) := by
  have hTL : ∀ t, (t = a ∨ t = b) → t ∈ L := fun t u => u.elim (fun u => by rw [u]; exact ha) (fun u => by rw [u]; exact hb)
  refine k_Na_combine hO ?_
  rw [(hF.nt ha).2.1]
  refine ⟨hF.kd ha, hF.kd hb, (f_reserve hO hF hb wb).mono (fun M3 k3 => ?_)⟩
  obtain ⟨c1, v1, z1, w1⟩ := k3
  have F1 := c1.nf
  obtain ⟨a1, -, a3, a4, a5, a6⟩ := c1.num hF ha ab
  have tb := F1.nt hb
  have ta := F1.nt ha
  have bb := F1.cb hb
  have cc : mN M3 (mR M3 b 0) = cp M3 b := rfl
  rw [tb.2.1]
  refine ⟨c1.ok, F1.kd hb, (s_JA_fillR (p := sz M3 b) (q := sz M a) c1.ok (F1.ka hb) (by omega) (by omega) (by omega) ⟨by decide, by decide⟩).mono (fun M7 k7 => ?_)⟩
  obtain ⟨o7, F7, i7⟩ := k7
  have ne := F1.ne ha hb ab
  have nab := F1.na ha hb
  have nbb := F1.na hb hb
  have LX : lim M7 (mR M3 b 0) (sz M a) := fun j hj => by
    rw [i7 j]
    by_cases u : sz M3 b ≤ j ∧ j < sz M a
    · rw [if_pos u]; exact ⟨by decide, by decide⟩
    · rw [if_neg u]; exact tb.2.2.2.1 j (by omega)
  have LY : lim M7 (mR M3 a 0) (sz M a) := fun j hj => by
    rw [F7.2.2.2.2.2.2 _ ne]
    exact ta.2.2.2.1 j (by omega)
  have DX : dn (mI M7 (mR M3 b 0)) (sz M a) = nv M b := by
    rw [dn_z (s := sz M3 b) (by omega) (fun j u1 u2 => by rw [i7 j, if_pos ⟨u1, u2⟩]), ← v1]
    exact dn_cg _ (fun j hj => by rw [i7 j, if_neg (by omega)])
  have DY : dn (mI M7 (mR M3 a 0)) (sz M a) = nv M a := by
    rw [F7.2.2.2.2.2.2 _ ne, ← a5]
    unfold nv
    rw [a4]
  have fc := c1.2.2.1.2 c zc
  have aC := F1.sc ha
  refine ⟨o7, hm_cb (s_cb32 (n := sz M a) (A := nv M a) (B := nv M b) (ta.1.fi F7) (tb.1.fi F7) (by omega) w1 ab ne (by rw [F7.1, fc.1]; exact kc) (by rw [F7.2.1, fc.2.1]; exact nc) (by rw [F7.2.2.2.1, fc.2.2.1]; exact e0) (by rw [F7.2.2.2.1, fc.2.2.1]; exact e1) (by rw [F7.2.2.2.1, fc.2.2.1]; exact e2) (by rw [F7.2.2.2.1, fc.2.2.1]; exact e3) b0 b1 b2 b3 LY LX DY.symm DX.symm g0 g1 (sz M a) 0 0 0 M7 (by omega) (by omega) ⟨by decide, by decide⟩ ⟨by decide, by decide⟩ o7 FI.refl LY LX (fun _ _ => rfl) (fun _ _ => rfl) (by show _ + 0 * _ = _ - 0 + _ * 0 + _ * (0 : Int); rw [Int.zero_mul, Int.mul_zero, Int.mul_zero, Int.sub_zero, Int.add_zero, Int.add_zero]) (by show _ + 0 * _ = _ - 0 + _ * 0 + _ * (0 : Int); rw [Int.zero_mul, Int.mul_zero, Int.mul_zero, Int.sub_zero, Int.add_zero, Int.add_zero])) (fun M' k' => ?_)⟩
  obtain ⟨o, F, s, t, Ta, Tb, r1, r2⟩ := k'
  rw [← Ta.nv] at r1
  rw [← Tb.nv] at r2
  have FF : FI (nsS M3 (fun x => x = a ∨ x = b)) M3 M' := by
    refine (F7.mono (fun y u => Or.inr ⟨b, Or.inr rfl, u⟩)).trans (F.mono (fun y u => ?_))
    rcases u with (u | u) | (u | u)
    · exact Or.inl (Or.inl u)
    · exact Or.inr ⟨a, Or.inl rfl, u⟩
    · exact Or.inl (Or.inr u)
    · exact Or.inr ⟨b, Or.inr rfl, u⟩
  have C2 := F1.chg hTL FF o (fun t ht => by
    rcases ht with u | u
    · rw [u]; exact ⟨_, Ta⟩
    · rw [u]; exact ⟨_, Tb⟩)
  exact ⟨(c1.mono (fun _ u => Or.inr u) hTL hF).trans C2, r1, r2⟩
end NAP
