/-! The class's natural numbers: copies and multiples. -/
section NAD
variable {G : mG} {d a b Y Cy s n X Cx w : Nat} {M M' M1 M2 M3 : mM} {v : Int}
theorem cpy_fi (hO : mOk M) (e : M' = mCpy M X Y 0 0 n) : mOk M' ∧ FI (fun x => x = Y) M M' ∧ ∀ j, j < n → mI M' Y j = mI M X j := by
  have ii : ∀ q j, mI M' q j = if q = Y ∧ 0 ≤ j ∧ j < 0 + n then mI M X (0 + (j - 0)) else mI M q j := fun q j => by rw [e]; rfl
  refine ⟨by rw [e]; exact mOk_Cpy hO, ⟨by rw [e]; rfl, by rw [e]; rfl, by rw [e]; rfl, by rw [e]; rfl, by rw [e]; rfl, by rw [e]; rfl, fun x hx => ?_⟩, fun j hj => ?_⟩
  · funext j
    rw [ii x j, if_neg (fun u => hx u.1)]
  · rw [ii Y j, if_pos ⟨rfl, by omega, by omega⟩, show 0 + (j - 0) = j by omega]
/-- the copy's end -/
theorem s_p1e {M0 : mM} (hO : mOk M) (h : Nl M a Y Cy) (hn : n ≤ Cy) (g3 : lim M X n) (g4 : 0 < n → mI M X (n - 1) ≠ 0) (b1 : mI M b 1 = (n : Int)) (bY : b ≠ Y) (eM : M1 = mCpy M X Y 0 0 n) (e2 : M2 = mUI M1 a 1 (mI M1 b 1)) : mOk M2 ∧ FI (fun x => x = a ∨ x = Y) M M2 ∧ Nt M2 a Y Cy n ∧ dn (mI M2 Y) n = dn (mI M X) n := by
  obtain ⟨o1, f1, y1⟩ := cpy_fi hO eM
  have ne : a ≠ Y := h.2.2.2.2.2.1
  have cb : Cy ≤ 100000 := h.2.2.2.2.1.2
  rw [show mI M1 b 1 = (n : Int) by rw [f1.2.2.2.2.2.2 b bY]; exact b1] at e2
  have f2 : FI (fun x => x = a) M1 M2 := by rw [e2]; exact FI.ui rfl
  have ff : FI (fun x => x = a ∨ x = Y) M M2 := (f1.mono (fun _ u => Or.inr u)).trans (f2.mono (fun _ u => Or.inl u))
  have yy : ∀ j, j < n → mI M2 Y j = mI M X j := fun j hj => by rw [f2.2.2.2.2.2.2 Y (fun u => ne u.symm), y1 j hj]
  exact ⟨by rw [e2]; exact mOk_UI o1 ⟨by omega, by omega⟩, ff, ⟨h.fi ff, by rw [mI_ui a 1 e2, if_pos ⟨rfl, rfl⟩], hn, fun j hj => by rw [yy j hj]; exact g3 j hj, fun u => by rw [yy _ (by omega)]; exact g4 u⟩, dn_cg n yy⟩
theorem s_p1n {l : Nat} (hO : mOk M) (h : Nl M a Y Cy) (k : Nt M b X Cx n) (ab : a ≠ b) (hl : 4 ≤ l ∧ l ≤ 100000) (hn : n ≤ l) (l1 : 2 * Cy ≤ l) (l3 : l ≤ 2 * n) (e19 : M1 = mNew M 30 l l) : mK M1 a = 10 ∧ ∀ M22, M22 = mUR M1 a 0 (mZ M) → mK M22 b = 10 ∧ mK M22 (mR M22 b 0) = 30 ∧ mK M22 (mR M22 a 0) = 30 ∧ ((0 : Int) ≤ 0 ∧ (0 : Int) ≤ 0 ∧ (0 : Int) ≤ mI M22 b 1 ∧ 0 + (mI M22 b 1) ≤ (mN M22 (mR M22 b 0) : Int) ∧ 0 + (mI M22 b 1) ≤ (mN M22 (mR M22 a 0) : Int)) ∧ ∀ M28, M28 = mCpy M22 (mR M22 b 0) (mR M22 a 0) 0 0 (Int.toNat (mI M22 b 1)) → ∀ M30, M30 = mUI M28 a 1 (mI M28 b 1) → nst M a Y Cy n (dn (mI M X) n) M30 := by
  obtain ⟨k0, r0, kY, nY, ⟨c1, c2⟩, ne, z1, z2⟩ := id h
  obtain ⟨⟨q0, p0, kX, nX, ⟨e1, e2⟩, -, y1, y2⟩, g1, g2, g3, g4⟩ := id k
  have F19 : FA (fun _ => False) (fun x => x = a) M M1 := FA.new e19
  refine ⟨by rw [(F19.2 a z1).1]; exact k0, fun M22 e22 => ?_⟩
  have F22 : FA (fun _ => False) (fun x => x = a) M M22 := F19.trans (FA.ur rfl e22)
  have ra : mR M22 a 0 = mZ M := by rw [e22, mR_UR, if_pos ⟨rfl, rfl⟩]
  have rb : mR M22 b 0 = X := by rw [(F22.2 b y1).2.2.2.1 (fun u => ab u.symm)]; exact p0
  have KZ : mK M22 (mZ M) = 30 := by rw [e22]; show mK M1 (mZ M) = 30; rw [e19, mK_New, if_pos rfl]
  have NZ : mN M22 (mZ M) = l := by rw [e22]; show mN M1 (mZ M) = l; rw [e19, mN_New, if_pos rfl]
  have i1 : mI M22 b 1 = (n : Int) := by rw [(F22.2 b y1).2.2.2.2 (fun u => u)]; exact g1
  have iX : mI M22 X = mI M X := (F22.2 X y2).2.2.2.2 (fun u => u)
  have Z22 : mZ M22 = mZ M + 1 := by rw [e22]; show mZ M1 = _; rw [e19, mZ_New]
  have S22 : mS M22 = mS M + l := by rw [e22]; show mS M1 = _; rw [e19, mS_New]
  have K22a : mK M22 a = 10 := by rw [(F22.2 a z1).1]; exact k0
  have K22b : mK M22 b = 10 := by rw [(F22.2 b y1).1]; exact q0
  have K22X : mK M22 X = 30 := by rw [(F22.2 X y2).1]; exact kX
  have N22X : mN M22 X = Cx := by rw [(F22.2 X y2).2.1]; exact nX
  have o22 : mOk M22 := by rw [e22]; exact mOk_UR (by rw [e19]; exact mOk_New hO)
  have h22 : Nl M22 a (mZ M) l := ⟨K22a, ra, KZ, NZ, hl, Nat.ne_of_lt z1, by omega, by omega⟩
  rw [ra, rb, i1, KZ, NZ, K22X, N22X, Int.toNat_natCast]
  refine ⟨K22b, rfl, rfl, ⟨by omega, by omega, by omega, by omega, by omega⟩, fun M28 e28 M30 e30 => ?_⟩
  obtain ⟨o, ff, t, e⟩ := s_p1e (M0 := M) (b := b) o22 h22 hn (fun j hj => by rw [iX]; exact g3 j hj) (fun u => by rw [iX]; exact g4 u) i1 (Nat.ne_of_lt y1) e28 e30
  rw [iX] at e
  exact nst_rs F22 (Or.inr ⟨rfl, Z22, S22, l1, l3⟩) ff o t e
theorem s_Na_put1 (hO : mOk M) (h : Nl M a Y Cy) (k : Nt M b X Cx n) (ab : a ≠ b) (hC : Cy ≤ 50000) (hn : n ≤ 50000) : Cv G y_Na_put1 (d + 1) [vr a, vr b] M (nst M a Y Cy n (dn (mI M X) n)) := by
  obtain ⟨k0, r0, kY, nY, ⟨c1, c2⟩, ne, z1, z2⟩ := id h
  obtain ⟨⟨l0, p0, kX, nX, ⟨e1, e2⟩, -, y1, y2⟩, g1, g2, g3, g4⟩ := id k
  have bY : b ≠ Y := fun u => by rw [u, kY] at l0; omega
  refine k_Na_put1 hO ?_
  rw [r0, nY, g1]
  refine ⟨l0, k0, kY, ⟨by omega, by omega⟩, fun y => ?_, fun y => ?_⟩
  · rw [p0, nX, Int.toNat_natCast]
    refine ⟨kX, ⟨by omega, by omega, by omega, by omega, by omega⟩, fun M13 e13 M15 e15 => ?_⟩
    obtain ⟨o, ff, t, e⟩ := s_p1e (M0 := M) (b := b) hO h (by omega) g3 g4 g1 bY e13 e15
    exact nst_fi t o ff e
  · obtain ⟨l, el, l1, l2, l3⟩ : ∃ l : Nat, (if ((n : Nat) : Int) < 2 * ((Cy : Nat) : Int) then 2 * ((Cy : Nat) : Int) else ((n : Nat) : Int)) = ((l : Nat) : Int) ∧ 2 * Cy ≤ l ∧ n ≤ l ∧ l ≤ 2 * n := by
      by_cases u : ((n : Nat) : Int) < 2 * ((Cy : Nat) : Int)
      · exact ⟨2 * Cy, by rw [if_pos u]; omega, by omega, by omega, by omega⟩
      · exact ⟨n, by rw [if_neg u], by omega, by omega, by omega⟩
    rw [el, Int.toNat_natCast]
    refine ⟨⟨by omega, by omega⟩, ⟨by omega, by omega⟩, fun M19 e19 => ?_⟩
    exact s_p1n hO h k ab ⟨by omega, by omega⟩ l2 l1 l3 e19
theorem mul_bd {f c l : Int} (hf : 0 ≤ f ∧ f < 1073741824) (hc : 0 ≤ c ∧ c < f ∨ c = 0) (hl : 0 ≤ l ∧ l < 1073741824) : 0 ≤ c + f * l ∧ c + f * l < 1152921504606846976 ∧ (0 < f → c + f * l < f * 1073741824) := by
  have h1 := Int.mul_nonneg hf.1 hl.1
  have h2 : f * l ≤ f * 1073741823 := Int.mul_le_mul_of_nonneg_left (by omega) hf.1
  omega
theorem hm_mul {f c i : Int} {Q Q' : mM → Prop} (h : h_Na_multiply_40 G d a f c i M Q) (hq : ∀ M', Q M' → Q' M') : h_Na_multiply_40 G d a f c i M Q' := by
  unfold h_Na_multiply_40 at h ⊢
  exact mWm.mono h (fun r M' k => ⟨k.1, hq M' k.2⟩)
/-- the loop of multiply -/
theorem s_mul40 {f : Int} (hf : 2 ≤ f ∧ f < 1073741824) (h : Nt M a Y Cy s) (hs : 0 < s) (hC : s < Cy) (hO : mOk M) : h_Na_multiply_40 G d a f 0 0 M (fun M' => mOk M' ∧ FI (fun x => x = a ∨ x = Y) M M' ∧ ∃ s', (s ≤ s' ∧ s' ≤ s + 1) ∧ Nt M' a Y Cy s' ∧ dn (mI M' Y) s' = f * dn (mI M Y) s) := by
  obtain ⟨⟨k0, r0, kY, nY, ⟨c1, c2⟩, ne, z1, z2⟩, h1, h2, h3, h4⟩ := id h
  obtain ⟨t, rfl⟩ : ∃ t, s = t + 1 := ⟨s - 1, by omega⟩
  have dge := dn_ge h3 (h4 hs)
  suffices HH : ∀ (t' i : Nat) (c : Int) (M1 : mM), t + 1 ≤ i + t' → i ≤ t + 1 → (0 ≤ c ∧ c < f) → mOk M1 → FI (fun x => x = Y) M M1 → lim M1 Y (t + 1) → (∀ j, i ≤ j → mI M1 Y j = mI M Y j) → dn (mI M1 Y) (t + 1) + c * 2 ^ (30 * i) = dn (mI M Y) (t + 1) + (f - 1) * dn (mI M Y) i → h_Na_multiply_40 G d a f c i M1 (fun M' => mOk M' ∧ FI (fun x => x = a ∨ x = Y) M M' ∧ ∃ s', (t + 1 ≤ s' ∧ s' ≤ t + 1 + 1) ∧ Nt M' a Y Cy s' ∧ dn (mI M' Y) s' = f * dn (mI M Y) (t + 1)) from by
    have := HH (t + 1) 0 0 M (by omega) (by omega) (by omega) hO FI.refl h3 (fun _ _ => rfl) (by show _ + 0 * _ = _ + _ * 0; omega)
    exact this
  intro t'
  induction t' with
  | zero =>
    intro i c M1 g1 g2 gc o F L E V
    have ei : i = t + 1 := by omega
    subst ei
    have a1 : mI M1 a 1 = ((t + 1 : Nat) : Int) := by rw [F.2.2.2.2.2.2 a ne]; exact h1
    have hN := (Nl.fi ⟨k0, r0, kY, nY, ⟨c1, c2⟩, ne, z1, z2⟩ F : Nl M1 a Y Cy)
    rw [show dn (mI M Y) (t + 1) + (f - 1) * dn (mI M Y) (t + 1) = f * dn (mI M Y) (t + 1) by rw [Int.sub_mul]; omega] at V
    refine k_Na_multiply_40 o ⟨by omega, by omega⟩ ⟨by omega, by omega⟩ ⟨by omega, by omega⟩ ?_
    rw [a1, F.1, F.2.1, F.2.2.1, r0, nY, Int.toNat_natCast]
    refine ⟨k0, fun _ => ⟨fun y => ?_, fun y => ?_⟩, fun y => absurd (Int.le_refl _) y⟩
    · have c0 : c = 0 := j_c0.1 y
      rw [c0, Int.zero_mul, Int.add_zero] at V
      refine ⟨o, F.mono (fun _ u => Or.inr u), t + 1, ⟨by omega, by omega⟩, ⟨hN, a1, h2, L, fun _ => ?_⟩, V⟩
      show mI M1 Y t ≠ 0
      refine dn_top L ?_
      rw [V]
      have := Int.mul_le_mul_of_nonneg_right (show 1 ≤ f by omega) (dn_nn h3)
      omega
    · have c0 : c ≠ 0 := fun u => y (j_c0.2 u)
      refine ⟨kY, ⟨by omega, by omega⟩, ⟨by omega, by omega⟩, fun M39 e39 => ?_⟩
      have f39 : FI (fun x => x = Y) M1 M39 := by rw [e39]; exact FI.ui rfl
      have a39 : mI M39 a 1 = ((t + 1 : Nat) : Int) := by rw [f39.2.2.2.2.2.2 a ne]; exact a1
      rw [a39]
      refine ⟨⟨by omega, by omega⟩, fun M42 e42 => ?_⟩
      have f42 : FI (fun x => x = a) M39 M42 := by rw [e42]; exact FI.ui rfl
      have ff : FI (fun x => x = a ∨ x = Y) M M42 := ((F.trans f39).mono (fun _ u => Or.inr u)).trans (f42.mono (fun _ u => Or.inl u))
      have yy : mI M42 Y = mI M39 Y := f42.2.2.2.2.2.2 Y (fun u => ne u.symm)
      have yt : mI M39 Y (t + 1) = c := by rw [mI_ui Y (t + 1) e39, if_pos ⟨rfl, rfl⟩]
      have yl : ∀ j, j < t + 1 → mI M39 Y j = mI M1 Y j := fun j hj => by rw [mI_ui Y j e39, if_neg (fun u => by omega)]
      refine ⟨by rw [e42]; exact mOk_UI (by rw [e39]; exact mOk_UI o ⟨by omega, by omega⟩) ⟨by omega, by omega⟩, ff, t + 1 + 1, ⟨by omega, by omega⟩, ⟨Nl.fi ⟨k0, r0, kY, nY, ⟨c1, c2⟩, ne, z1, z2⟩ ff, by rw [mI_ui a 1 e42, if_pos ⟨rfl, rfl⟩]; omega, by omega, fun j hj => ?_, fun _ => ?_⟩, ?_⟩
      · rw [yy]
        by_cases u : j < t + 1
        · rw [yl j u]; exact L j u
        · rw [show j = t + 1 by omega, yt]; omega
      · rw [yy, show t + 1 + 1 - 1 = t + 1 by omega, yt]; exact c0
      · rw [yy, dn_s, yt, dn_cg (t + 1) yl]
        exact V
  | succ t' ih =>
    intro i c M1 g1 g2 gc o F L E V
    by_cases ei : i = t + 1
    · exact ih i c M1 (by omega) g2 gc o F L E V
    have li : i < t + 1 := by omega
    have a1 : mI M1 a 1 = ((t + 1 : Nat) : Int) := by rw [F.2.2.2.2.2.2 a ne]; exact h1
    obtain ⟨b1, b2, b3⟩ := mul_bd (f := f) (c := c) (l := mI M1 Y i) ⟨by omega, by omega⟩ (Or.inl gc) (L i li)
    refine k_Na_multiply_40 o ⟨by omega, by omega⟩ ⟨by omega, by omega⟩ ⟨by omega, by omega⟩ ?_
    rw [a1, F.1, F.2.1, F.2.2.1, r0, nY, Int.toNat_natCast, Int.toNat_natCast, j_and, j_ushr b1 (by omega)]
    refine ⟨k0, fun y => absurd y (by omega), fun _ => ⟨kY, by omega, by omega, m30i _, fun M48 e48 => ?_⟩⟩
    rw [show ((i : Int) + 1) = ((i + 1 : Nat) : Int) by omega]
    have b4 := b3 (by omega)
    have V48 := c_st (i := i) (dn_ui (M' := M48) li e48)
    refine ih (i + 1) _ M48 (by omega) (by omega) ⟨by omega, by omega⟩ (by rw [e48]; exact mOk_UI o (m30i _)) (F.trans (by rw [e48]; exact FI.ui rfl)) (lim_ui L (m30 _) e48) (fun j hj => by rw [mI_ui Y j e48, if_neg (fun u => by omega)]; exact E j (by omega)) ?_
    rw [V48, dn_s (mI M Y) i, ← E i (Nat.le_refl _)]
    exact al_mul V
theorem s_Na_multiply {f : Int} (hf : 1 ≤ f ∧ f < 1073741824) (hO : mOk M) (h : Nt M a Y Cy s) (hC : Cy ≤ 50000) : Cv G y_Na_multiply (d + 2) [vr a, vi f] M (nst M a Y Cy (s + 1) (f * dn (mI M Y) s)) := by
  obtain ⟨⟨k0, r0, kY, nY, ⟨c1, c2⟩, ne, z1, z2⟩, h1, h2, h3, h4⟩ := id h
  refine k_Na_multiply hO ⟨by omega, by omega⟩ ⟨fun y => ?_, fun y => ?_⟩
  · rw [y, Int.one_mul]
    exact nst_fi h hO FI.refl rfl
  · rw [r0, nY, h1]
    refine ⟨k0, kY, ⟨by omega, by omega⟩, fun e => ?_, fun e => ?_⟩
    · have es : s = Cy := by omega
      rw [show 2 * ((s : Nat) : Int) = ((2 * s : Nat) : Int) by omega]
      refine (s_JA_copyOf hO kY z2 (by omega) (by omega)).mono (fun x M15 q => ?_)
      obtain ⟨ex, o15, f15, Z15, S15, K15, N15, I15⟩ := q
      subst ex
      rw [nY] at I15
      refine ⟨o15, by rw [(f15.2 a z1).1]; exact k0, fun M19 e19 => ?_⟩
      have F19 : FA (fun _ => False) (fun x => x = a) M M19 := (f15.mono (fun _ _ y => y) (fun _ _ y => y.elim)).trans (FA.ur rfl e19)
      have Z19 : mZ M19 = mZ M + 1 := by rw [e19]; exact Z15
      have o19 : mOk M19 := by rw [e19]; exact mOk_UR o15
      have t19 : Nt M19 a (mZ M) (2 * s) s := ⟨⟨by rw [(F19.2 a z1).1]; exact k0, by rw [e19, mR_UR, if_pos ⟨rfl, rfl⟩], by rw [e19]; exact K15, by rw [e19]; exact N15, ⟨by omega, by omega⟩, by omega, by omega, by omega⟩, by rw [(F19.2 a z1).2.2.2.2 (fun u => u)]; exact h1, by omega, fun j hj => by rw [e19, mI_UR, I15 j (by omega)]; exact h3 j hj, fun u => by rw [e19, mI_UR, I15 _ (by omega)]; exact h4 u⟩
      refine hm_mul (s_mul40 ⟨by omega, hf.2⟩ t19 (by omega) (by omega) o19) (fun M' q => ?_)
      obtain ⟨o, F, s', -, T, V⟩ := q
      refine nst_rs (Y' := mZ M) (Cy' := 2 * s) F19 (Or.inr ⟨rfl, Z19, by rw [e19, mS_UR]; exact S15, by omega, by omega⟩) F o T ?_
      rw [V, e19, mI_UR, dn_cg s (fun j hj => I15 j (by omega))]
    · by_cases s0 : s = 0
      · subst s0
        refine k_Na_multiply_40 hO ⟨by omega, by omega⟩ ⟨by omega, by omega⟩ ⟨by omega, by omega⟩ ?_
        rw [h1]
        refine ⟨k0, fun _ => ⟨fun _ => ?_, fun u => absurd (j_c0.2 rfl) u⟩, fun u => absurd (Int.le_refl _) u⟩
        exact nst_fi h hO FI.refl (by show (0 : Int) = f * 0; omega)
      · refine hm_mul (s_mul40 ⟨by omega, hf.2⟩ h (by omega) (by omega) hO) (fun M' q => ?_)
        obtain ⟨o, F, s', -, T, V⟩ := q
        exact nst_fi T o F V
end NAD
