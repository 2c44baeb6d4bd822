section
/-! The class's natural numbers: copies and multiples. -/
section NAD
variable {G : mG} {d a b Y Cy s n X Cx w : Nat} {M M' M1 M2 M3 : mM} {v : Int}
theorem cpy_fi (hO : mOk M) (e : M' = mCpy M X Y 0 0 n) : mOk M' ∧ FI (fun x => x = Y) M M' ∧ ∀ j, j < n → mI M' Y j = mI M X j := by
  have ii : ∀ q j, mI M' q j = if q = Y ∧ 0 ≤ j ∧ j < 0 + n then mI M X (0 + (j - 0)) else mI M q j := fun q j => by rw [e]; rfl
  refine ⟨by rw [e]; exact mOk_Cpy hO, ⟨by rw [e]; rfl, by rw [e]; rfl, by rw [e]; rfl, by rw [e]; rfl, by rw [e]; rfl, by rw [e]; rfl, fun x hx => ?_⟩, fun j hj => ?_⟩
  · funext j
    rw [ii x j, if_neg (fun u => hx u.1)]
  · rw [ii Y j, if_pos ⟨rfl, by omega, by omega⟩, show 0 + (j - 0) = j by omega]
/-- the copy's end -/
theorem s_p1e {M0 : mM} (hO : mOk M) (h : Nl M a Y Cy) (hn : n ≤ Cy) (g3 : lim M X n) (g4 : 0 < n → mI M X (n - 1) ≠ 0) (b1 : mI M b 1 = (n : Int)) (bY : b ≠ Y) (eM : M1 = mCpy M X Y 0 0 n) (e2 : M2 = mUI M1 a 1 (mI M1 b 1)) : mOk M2 ∧ FI (fun x => x = a ∨ x = Y) M M2 ∧ Nt M2 a Y Cy n ∧ dn (mI M2 Y) n = dn (mI M X) n := by
  obtain ⟨o1, f1, y1⟩ := cpy_fi hO eM
  have ne : a ≠ Y := h.2.2.2.2.2.1
  have cb : Cy ≤ 100000 := h.2.2.2.2.1.2
  rw [show mI M1 b 1 = (n : Int) by rw [f1.2.2.2.2.2.2 b bY]; exact b1] at e2
  have f2 : FI (fun x => x = a) M1 M2 := by rw [e2]; exact FI.ui rfl
  have ff : FI (fun x => x = a ∨ x = Y) M M2 := (f1.mono (fun _ u => Or.inr u)).trans (f2.mono (fun _ u => Or.inl u))
  have yy : ∀ j, j < n → mI M2 Y j = mI M X j := fun j hj => by rw [f2.2.2.2.2.2.2 Y (fun u => ne u.symm), y1 j hj]
  exact ⟨by rw [e2]; exact mOk_UI o1 ⟨by omega, by omega⟩, ff, ⟨h.fi ff, by rw [mI_ui a 1 e2, if_pos ⟨rfl, rfl⟩], hn, fun j hj => by rw [yy j hj]; exact g3 j hj, fun u => by rw [yy _ (by omega)]; exact g4 u⟩, dn_cg n yy⟩
theorem s_p1n {l : Nat} (hO : mOk M) (h : Nl M a Y Cy) (k : Nt M b X Cx n) (ab : a ≠ b) (hl : 4 ≤ l ∧ l ≤ 100000) (hn : n ≤ l) (l1 : 2 * Cy ≤ l) (l3 : l ≤ 2 * n) (e19 : M1 = mNew M 30 l l) : mK M1 a = 10 ∧ ∀ M22, M22 = mUR M1 a 0 (mZ M) → mK M22 b = 10 ∧ mK M22 (mR M22 b 0) = 30 ∧ mK M22 (mR M22 a 0) = 30 ∧ ((0 : Int) ≤ 0 ∧ (0 : Int) ≤ 0 ∧ (0 : Int) ≤ mI M22 b 1 ∧ 0 + (mI M22 b 1) ≤ (mN M22 (mR M22 b 0) : Int) ∧ 0 + (mI M22 b 1) ≤ (mN M22 (mR M22 a 0) : Int)) ∧ ∀ M28, M28 = mCpy M22 (mR M22 b 0) (mR M22 a 0) 0 0 (Int.toNat (mI M22 b 1)) → ∀ M30, M30 = mUI M28 a 1 (mI M28 b 1) → nst M a Y Cy n (dn (mI M X) n) M30 := by
  obtain ⟨k0, r0, kY, nY, ⟨c1, c2⟩, ne, z1, z2⟩ := id h
  obtain ⟨⟨q0, p0, kX, nX, ⟨e1, e2⟩, -, y1, y2⟩, g1, g2, g3, g4⟩ := id k
  have F19 : FA (fun _ => False) (fun x => x = a) M M1 := FA.new e19
  refine ⟨by rw [(F19.2 a z1).1]; exact k0, fun M22 e22 => ?_⟩
  have F22 : FA (fun _ => False) (fun x => x = a) M M22 := F19.trans (FA.ur rfl e22)
  have ra : mR M22 a 0 = mZ M := by rw [e22, mR_UR, if_pos ⟨rfl, rfl⟩]
  have rb : mR M22 b 0 = X := by rw [(F22.2 b y1).2.2.2.1 (fun u => ab u.symm)]; exact p0
  have KZ : mK M22 (mZ M) = 30 := by rw [e22]; show mK M1 (mZ M) = 30; rw [e19, mK_New, if_pos rfl]
  have NZ : mN M22 (mZ M) = l := by rw [e22]; show mN M1 (mZ M) = l; rw [e19, mN_New, if_pos rfl]
  have i1 : mI M22 b 1 = (n : Int) := by rw [(F22.2 b y1).2.2.2.2 (fun u => u)]; exact g1
  have iX : mI M22 X = mI M X := (F22.2 X y2).2.2.2.2 (fun u => u)
  have Z22 : mZ M22 = mZ M + 1 := by rw [e22]; show mZ M1 = _; rw [e19, mZ_New]
  have S22 : mS M22 = mS M + l := by rw [e22]; show mS M1 = _; rw [e19, mS_New]
  have K22a : mK M22 a = 10 := by rw [(F22.2 a z1).1]; exact k0
  have K22b : mK M22 b = 10 := by rw [(F22.2 b y1).1]; exact q0
  have K22X : mK M22 X = 30 := by rw [(F22.2 X y2).1]; exact kX
  have N22X : mN M22 X = Cx := by rw [(F22.2 X y2).2.1]; exact nX
  have o22 : mOk M22 := by rw [e22]; exact mOk_UR (by rw [e19]; exact mOk_New hO)
  have h22 : Nl M22 a (mZ M) l := ⟨K22a, ra, KZ, NZ, hl, Nat.ne_of_lt z1, by omega, by omega⟩
  rw [ra, rb, i1, KZ, NZ, K22X, N22X, Int.toNat_natCast]
  refine ⟨K22b, rfl, rfl, ⟨by omega, by omega, by omega, by omega, by omega⟩, fun M28 e28 M30 e30 => ?_⟩
  obtain ⟨o, ff, t, e⟩ := s_p1e (M0 := M) (b := b) o22 h22 hn (fun j hj => by rw [iX]; exact g3 j hj) (fun u => by rw [iX]; exact g4 u) i1 (Nat.ne_of_lt y1) e28 e30
  rw [iX] at e
  exact nst_rs F22 (Or.inr ⟨rfl, Z22, S22, l1, l3⟩) ff o t e
theorem s_Na_put1 (hO : mOk M) (h : Nl M a Y Cy) (k : Nt M b X Cx n) (ab : a ≠ b) (hC : Cy ≤ 50000) (hn : n ≤ 50000) : Cv G y_Na_put1 (d + 1) [vr a, vr b] M (nst M a Y Cy n (dn (mI M X) n)) := by
  obtain ⟨k0, r0, kY, nY, ⟨c1, c2⟩, ne, z1, z2⟩ := id h
  obtain ⟨⟨l0, p0, kX, nX, ⟨e1, e2⟩, -, y1, y2⟩, g1, g2, g3, g4⟩ := id k
  have bY : b ≠ Y := fun u => by rw [u, kY] at l0; omega
  refine k_Na_put1 hO ?_
  rw [r0, nY, g1]
  refine ⟨l0, k0, kY, ⟨by omega, by omega⟩, fun y => ?_, fun y => ?_⟩
  · rw [p0, nX, Int.toNat_natCast]
    refine ⟨kX, ⟨by omega, by omega, by omega, by omega, by omega⟩, fun M13 e13 M15 e15 => ?_⟩
    obtain ⟨o, ff, t, e⟩ := s_p1e (M0 := M) (b := b) hO h (by omega) g3 g4 g1 bY e13 e15
    exact nst_fi t o ff e
  · obtain ⟨l, el, l1, l2, l3⟩ : ∃ l : Nat, (if ((n : Nat) : Int) < 2 * ((Cy : Nat) : Int) then 2 * ((Cy : Nat) : Int) else ((n : Nat) : Int)) = ((l : Nat) : Int) ∧ 2 * Cy ≤ l ∧ n ≤ l ∧ l ≤ 2 * n := by
      by_cases u : ((n : Nat) : Int) < 2 * ((Cy : Nat) : Int)
      · exact ⟨2 * Cy, by rw [if_pos u]; omega, by omega, by omega, by omega⟩
      · exact ⟨n, by rw [if_neg u], by omega, by omega, by omega⟩
    rw [el, Int.toNat_natCast]
    refine ⟨⟨by omega, by omega⟩, ⟨by omega, by omega⟩, fun M19 e19 => ?_⟩
    exact s_p1n hO h k ab ⟨by omega, by omega⟩ l2 l1 l3 e19
theorem mul_bd {f c l : Int} (hf : 0 ≤ f ∧ f < 1073741824) (hc : 0 ≤ c ∧ c < f ∨ c = 0) (hl : 0 ≤ l ∧ l < 1073741824) : 0 ≤ c + f * l ∧ c + f * l < 1152921504606846976 ∧ (0 < f → c + f * l < f * 1073741824) := by
  have h1 := Int.mul_nonneg hf.1 hl.1
  have h2 : f * l ≤ f * 1073741823 := Int.mul_le_mul_of_nonneg_left (by omega) hf.1
  omega
theorem hm_mul {f c i : Int} {Q Q' : mM → Prop} (h : h_Na_multiply_40 G d a f c i M Q) (hq : ∀ M', Q M' → Q' M') : h_Na_multiply_40 G d a f c i M Q' := by
  unfold h_Na_multiply_40 at h ⊢
  exact mWm.mono h (fun r M' k => ⟨k.1, hq M' k.2⟩)
/-- the loop of multiply -/
theorem s_mul40 {f : Int} (hf : 2 ≤ f ∧ f < 1073741824) (h : Nt M a Y Cy s) (hs : 0 < s) (hC : s < Cy) (hO : mOk M) : h_Na_multiply_40 G d a f 0 0 M (fun M' => mOk M' ∧ FI (fun x => x = a ∨ x = Y) M M' ∧ ∃ s', (s ≤ s' ∧ s' ≤ s + 1) ∧ Nt M' a Y Cy s' ∧ dn (mI M' Y) s' = f * dn (mI M Y) s) := by
  obtain ⟨⟨k0, r0, kY, nY, ⟨c1, c2⟩, ne, z1, z2⟩, h1, h2, h3, h4⟩ := id h
  obtain ⟨t, rfl⟩ : ∃ t, s = t + 1 := ⟨s - 1, by omega⟩
  have dge := dn_ge h3 (h4 hs)
  suffices HH : ∀ (t' i : Nat) (c : Int) (M1 : mM), t + 1 ≤ i + t' → i ≤ t + 1 → (0 ≤ c ∧ c < f) → mOk M1 → FI (fun x => x = Y) M M1 → lim M1 Y (t + 1) → (∀ j, i ≤ j → mI M1 Y j = mI M Y j) → dn (mI M1 Y) (t + 1) + c * 2 ^ (30 * i) = dn (mI M Y) (t + 1) + (f - 1) * dn (mI M Y) i → h_Na_multiply_40 G d a f c i M1 (fun M' => mOk M' ∧ FI (fun x => x = a ∨ x = Y) M M' ∧ ∃ s', (t + 1 ≤ s' ∧ s' ≤ t + 1 + 1) ∧ Nt M' a Y Cy s' ∧ dn (mI M' Y) s' = f * dn (mI M Y) (t + 1)) from by
    have := HH (t + 1) 0 0 M (by omega) (by omega) (by omega) hO FI.refl h3 (fun _ _ => rfl) (by show _ + 0 * _ = _ + _ * 0; omega)
    exact this
  intro t'
  induction t' with
  | zero =>
    intro i c M1 g1 g2 gc o F L E V
    have ei : i = t + 1 := by omega
    subst ei
    have a1 : mI M1 a 1 = ((t + 1 : Nat) : Int) := by rw [F.2.2.2.2.2.2 a ne]; exact h1
    have hN := (Nl.fi ⟨k0, r0, kY, nY, ⟨c1, c2⟩, ne, z1, z2⟩ F : Nl M1 a Y Cy)
    rw [show dn (mI M Y) (t + 1) + (f - 1) * dn (mI M Y) (t + 1) = f * dn (mI M Y) (t + 1) by rw [Int.sub_mul]; omega] at V
    refine k_Na_multiply_40 o ⟨by omega, by omega⟩ ⟨by omega, by omega⟩ ⟨by omega, by omega⟩ ?_
    rw [a1, F.1, F.2.1, F.2.2.1, r0, nY, Int.toNat_natCast]
    refine ⟨k0, fun _ => ⟨fun y => ?_, fun y => ?_⟩, fun y => absurd (Int.le_refl _) y⟩
    · have c0 : c = 0 := j_c0.1 y
      rw [c0, Int.zero_mul, Int.add_zero] at V
      refine ⟨o, F.mono (fun _ u => Or.inr u), t + 1, ⟨by omega, by omega⟩, ⟨hN, a1, h2, L, fun _ => ?_⟩, V⟩
      show mI M1 Y t ≠ 0
      refine dn_top L ?_
      rw [V]
      have := Int.mul_le_mul_of_nonneg_right (show 1 ≤ f by omega) (dn_nn h3)
      omega
    · have c0 : c ≠ 0 := fun u => y (j_c0.2 u)
      refine ⟨kY, ⟨by omega, by omega⟩, ⟨by omega, by omega⟩, fun M39 e39 => ?_⟩
      have f39 : FI (fun x => x = Y) M1 M39 := by rw [e39]; exact FI.ui rfl
      have a39 : mI M39 a 1 = ((t + 1 : Nat) : Int) := by rw [f39.2.2.2.2.2.2 a ne]; exact a1
      rw [a39]
      refine ⟨⟨by omega, by omega⟩, fun M42 e42 => ?_⟩
      have f42 : FI (fun x => x = a) M39 M42 := by rw [e42]; exact FI.ui rfl
      have ff : FI (fun x => x = a ∨ x = Y) M M42 := ((F.trans f39).mono (fun _ u => Or.inr u)).trans (f42.mono (fun _ u => Or.inl u))
      have yy : mI M42 Y = mI M39 Y := f42.2.2.2.2.2.2 Y (fun u => ne u.symm)
      have yt : mI M39 Y (t + 1) = c := by rw [mI_ui Y (t + 1) e39, if_pos ⟨rfl, rfl⟩]
      have yl : ∀ j, j < t + 1 → mI M39 Y j = mI M1 Y j := fun j hj => by rw [mI_ui Y j e39, if_neg (fun u => by omega)]
      refine ⟨by rw [e42]; exact mOk_UI (by rw [e39]; exact mOk_UI o ⟨by omega, by omega⟩) ⟨by omega, by omega⟩, ff, t + 1 + 1, ⟨by omega, by omega⟩, ⟨Nl.fi ⟨k0, r0, kY, nY, ⟨c1, c2⟩, ne, z1, z2⟩ ff, by rw [mI_ui a 1 e42, if_pos ⟨rfl, rfl⟩]; omega, by omega, fun j hj => ?_, fun _ => ?_⟩, ?_⟩
      · rw [yy]
        by_cases u : j < t + 1
        · rw [yl j u]; exact L j u
        · rw [show j = t + 1 by omega, yt]; omega
      · rw [yy, show t + 1 + 1 - 1 = t + 1 by omega, yt]; exact c0
      · rw [yy, dn_s, yt, dn_cg (t + 1) yl]
        exact V
  | succ t' ih =>
    intro i c M1 g1 g2 gc o F L E V
    by_cases ei : i = t + 1
    · exact ih i c M1 (by omega) g2 gc o F L E V
    have li : i < t + 1 := by omega
    have a1 : mI M1 a 1 = ((t + 1 : Nat) : Int) := by rw [F.2.2.2.2.2.2 a ne]; exact h1
    obtain ⟨b1, b2, b3⟩ := mul_bd (f := f) (c := c) (l := mI M1 Y i) ⟨by omega, by omega⟩ (Or.inl gc) (L i li)
    refine k_Na_multiply_40 o ⟨by omega, by omega⟩ ⟨by omega, by omega⟩ ⟨by omega, by omega⟩ ?_
    rw [a1, F.1, F.2.1, F.2.2.1, r0, nY, Int.toNat_natCast, Int.toNat_natCast, j_and, j_ushr b1 (by omega)]
    refine ⟨k0, fun y => absurd y (by omega), fun _ => ⟨kY, by omega, by omega, m30i _, fun M48 e48 => ?_⟩⟩
    rw [show ((i : Int) + 1) = ((i + 1 : Nat) : Int) by omega]
    have b4 := b3 (by omega)
    have V48 := c_st (i := i) (dn_ui (M' := M48) li e48)
    refine ih (i + 1) _ M48 (by omega) (by omega) ⟨by omega, by omega⟩ (by rw [e48]; exact mOk_UI o (m30i _)) (F.trans (by rw [e48]; exact FI.ui rfl)) (lim_ui L (m30 _) e48) (fun j hj => by rw [mI_ui Y j e48, if_neg (fun u => by omega)]; exact E j (by omega)) ?_
    rw [V48, dn_s (mI M Y) i, ← E i (Nat.le_refl _)]
    exact al_mul V
theorem s_Na_multiply {f : Int} (hf : 1 ≤ f ∧ f < 1073741824) (hO : mOk M) (h : Nt M a Y Cy s) (hC : Cy ≤ 50000) : Cv G y_Na_multiply (d + 2) [vr a, vi f] M (nst M a Y Cy (s + 1) (f * dn (mI M Y) s)) := by
  obtain ⟨⟨k0, r0, kY, nY, ⟨c1, c2⟩, ne, z1, z2⟩, h1, h2, h3, h4⟩ := id h
  refine k_Na_multiply hO ⟨by omega, by omega⟩ ⟨fun y => ?_, fun y => ?_⟩
  · rw [y, Int.one_mul]
    exact nst_fi h hO FI.refl rfl
  · rw [r0, nY, h1]
    refine ⟨k0, kY, ⟨by omega, by omega⟩, fun e => ?_, fun e => ?_⟩
    · have es : s = Cy := by omega
      rw [show 2 * ((s : Nat) : Int) = ((2 * s : Nat) : Int) by omega]
      refine (s_JA_copyOf hO kY z2 (by omega) (by omega)).mono (fun x M15 q => ?_)
      obtain ⟨ex, o15, f15, Z15, S15, K15, N15, I15⟩ := q
      subst ex
      rw [nY] at I15
      refine ⟨o15, by rw [(f15.2 a z1).1]; exact k0, fun M19 e19 => ?_⟩
      have F19 : FA (fun _ => False) (fun x => x = a) M M19 := (f15.mono (fun _ _ y => y) (fun _ _ y => y.elim)).trans (FA.ur rfl e19)
      have Z19 : mZ M19 = mZ M + 1 := by rw [e19]; exact Z15
      have o19 : mOk M19 := by rw [e19]; exact mOk_UR o15
      have t19 : Nt M19 a (mZ M) (2 * s) s := ⟨⟨by rw [(F19.2 a z1).1]; exact k0, by rw [e19, mR_UR, if_pos ⟨rfl, rfl⟩], by rw [e19]; exact K15, by rw [e19]; exact N15, ⟨by omega, by omega⟩, by omega, by omega, by omega⟩, by rw [(F19.2 a z1).2.2.2.2 (fun u => u)]; exact h1, by omega, fun j hj => by rw [e19, mI_UR, I15 j (by omega)]; exact h3 j hj, fun u => by rw [e19, mI_UR, I15 _ (by omega)]; exact h4 u⟩
      refine hm_mul (s_mul40 ⟨by omega, hf.2⟩ t19 (by omega) (by omega) o19) (fun M' q => ?_)
      obtain ⟨o, F, s', -, T, V⟩ := q
      refine nst_rs (Y' := mZ M) (Cy' := 2 * s) F19 (Or.inr ⟨rfl, Z19, by rw [e19, mS_UR]; exact S15, by omega, by omega⟩) F o T ?_
      rw [V, e19, mI_UR, dn_cg s (fun j hj => I15 j (by omega))]
    · by_cases s0 : s = 0
      · subst s0
        refine k_Na_multiply_40 hO ⟨by omega, by omega⟩ ⟨by omega, by omega⟩ ⟨by omega, by omega⟩ ?_
        rw [h1]
        refine ⟨k0, fun _ => ⟨fun _ => ?_, fun u => absurd (j_c0.2 rfl) u⟩, fun u => absurd (Int.le_refl _) u⟩
        exact nst_fi h hO FI.refl (by show (0 : Int) = f * 0; omega)
      · refine hm_mul (s_mul40 ⟨by omega, hf.2⟩ h (by omega) (by omega) hO) (fun M' q => ?_)
        obtain ⟨o, F, s', -, T, V⟩ := q
        exact nst_fi T o F V
end NAD
end
section
/-! The class's natural numbers: a sum. -/
section NAE
variable {G : mG} {d a b Y Cy s n m X Cx w : Nat} {M M' M1 M2 M3 : mM} {v : Int}
theorem add_bd {f c l x : Int} (hf : 0 ≤ f ∧ f < 1073741824) (hc : 0 ≤ c ∧ c < 1073741824) (hl : 0 ≤ l ∧ l < 1073741824) (hx : 0 ≤ x ∧ x < 1073741824) : 0 ≤ c + (l + f * x) ∧ c + (l + f * x) < 1152921504606846976 := by
  have h1 := Int.mul_nonneg hf.1 hx.1
  have h2 : f * x ≤ 1073741823 * x := Int.mul_le_mul_of_nonneg_right (by omega) hx.1
  omega
theorem q30 {x : Int} (h : 0 ≤ x ∧ x < 1152921504606846976) : 0 ≤ x / 1073741824 ∧ x / 1073741824 < 1073741824 := by omega
theorem c30 {c : Int} (h : 0 ≤ c ∧ c < 1073741824) : i64 c := ⟨by omega, by omega⟩
theorem t30 {x : Int} (h : 0 ≤ x ∧ x < 1152921504606846976) : x < 9223372036854775808 := by omega
/-- the carry goes on -/
theorem s_add107 {T : Int} (h : Nl M a Y Cy) (hm : m < Cy) (hT : T < 2 ^ (30 * (m + 1))) : ∀ (t i : Nat) (c : Int) (M1 : mM), m + 1 ≤ i + t → i ≤ m + 1 → (0 ≤ c ∧ c < 1073741824) → mOk M1 → FI (fun x => x = Y) M M1 → lim M1 Y (m + 1) → dn (mI M1 Y) (m + 1) + c * 2 ^ (30 * i) = T → h_Na_add_107 G d a m c i M1 (fun M' => mOk M' ∧ FI (fun x => x = a ∨ x = Y) M M' ∧ ∃ s', Nt M' a Y Cy s' ∧ dn (mI M' Y) s' = T) := by
  have cb := h.2.2.2.2.1.2
  have fin : ∀ (M1 : mM), mOk M1 → FI (fun x => x = Y) M M1 → lim M1 Y (m + 1) → dn (mI M1 Y) (m + 1) = T → mK M1 a = 10 ∧ Cv G y_Na_trim d [vr a, vi ((m : Int) + 1)] M1 (fun M39 => mOk M39 ∧ (mOk M39 ∧ FI (fun x => x = a ∨ x = Y) M M39 ∧ ∃ s', Nt M39 a Y Cy s' ∧ dn (mI M39 Y) s' = T)) := by
    intro M1 o F L V
    refine ⟨by rw [F.1]; exact h.1, ?_⟩
    rw [show ((m : Int) + 1) = ((m + 1 : Nat) : Int) by omega]
    refine (s_Na_trim o (h.fi F) (by omega) L).mono (fun M' q => ?_)
    obtain ⟨o', F', -, s', -, t', e'⟩ := q
    exact ⟨o', o', (F.mono (fun _ u => Or.inr u)).trans (F'.mono (fun _ u => Or.inl u)), s', t', by rw [e', V]⟩
  intro t
  induction t with
  | zero =>
    intro i c M1 g1 g2 gc o F L V
    have ei : i = m + 1 := by omega
    subst ei
    have c0 : c = 0 := by
      have a1 := dn_nn L
      refine Classical.byContradiction (fun u => ?_)
      have a2 := Int.mul_le_mul_of_nonneg_right (show 1 ≤ c by omega) (Int.le_of_lt (p30p (m + 1)))
      omega
    rw [c0, Int.zero_mul, Int.add_zero] at V
    exact k_Na_add_107 o ⟨by omega, by omega⟩ (c30 gc) ⟨by omega, by omega⟩ ⟨fun _ => fin M1 o F L V, fun y => absurd (Or.inl (by omega)) y⟩
  | succ t ih =>
    intro i c M1 g1 g2 gc o F L V
    by_cases ei : i = m + 1
    · exact ih i c M1 (by omega) g2 gc o F L V
    have li : i < m + 1 := by omega
    refine k_Na_add_107 o ⟨by omega, by omega⟩ (c30 gc) ⟨by omega, by omega⟩ ⟨fun y => ?_, fun y => ?_⟩
    · have c0 : c = 0 := by
        rcases y with y | y
        · omega
        · exact j_c0.1 y
      rw [c0, Int.zero_mul, Int.add_zero] at V
      exact fin M1 o F L V
    · have Li := L i li
      have bd : 0 ≤ c + mI M1 Y i ∧ c + mI M1 Y i < 1152921504606846976 := by omega
      rw [F.1, F.2.1, F.2.2.1, h.2.1, h.2.2.2.1, Int.toNat_natCast, j_and, j_ushr bd.1 (t30 bd)]
      refine ⟨h.1, h.2.2.1, by omega, by omega, m30i _, fun M48 e48 => ?_⟩
      rw [show ((i : Int) + 1) = ((i + 1 : Nat) : Int) by omega]
      refine ih (i + 1) _ M48 (by omega) (by omega) (q30 bd) (by rw [e48]; exact mOk_UI o (m30i _)) (F.trans (by rw [e48]; exact FI.ui rfl)) (lim_ui L (m30 _) e48) ?_
      rw [c_st (i := i) (dn_ui (M' := M48) li e48)]
      exact al_car V
/-- the sum limb by limb -/
theorem s_add40 {f T : Int} (hf : 0 ≤ f ∧ f < 1073741824) (h : Nl M a Y Cy) (k : Nt M b X Cx n) (hm : m < Cy) (hn : n ≤ m) (bY : b ≠ Y) (XY : X ≠ Y) (hT : T < 2 ^ (30 * (m + 1))) (eT : T = dn (mI M Y) (m + 1) + f * dn (mI M X) n) : ∀ (t i : Nat) (c : Int) (M1 : mM), n ≤ i + t → i ≤ n → (0 ≤ c ∧ c < 1073741824) → mOk M1 → FI (fun x => x = Y) M M1 → lim M1 Y (m + 1) → dn (mI M1 Y) (m + 1) + c * 2 ^ (30 * i) = dn (mI M Y) (m + 1) + f * dn (mI M X) i → h_Na_add_40 G d a b f m c i M1 (fun M' => mOk M' ∧ FI (fun x => x = a ∨ x = Y) M M' ∧ ∃ s', Nt M' a Y Cy s' ∧ dn (mI M' Y) s' = T) := by
  obtain ⟨⟨l0, p0, kX, nX, ⟨e1, e2⟩, -, y1, y2⟩, g1, g2, g3, g4⟩ := id k
  have cb := h.2.2.2.2.1.2
  have fin : ∀ (c : Int) (M1 : mM), (0 ≤ c ∧ c < 1073741824) → mOk M1 → FI (fun x => x = Y) M M1 → lim M1 Y (m + 1) → dn (mI M1 Y) (m + 1) + c * 2 ^ (30 * n) = dn (mI M Y) (m + 1) + f * dn (mI M X) n → h_Na_add_107 G d a m c n M1 (fun M' => mOk M' ∧ FI (fun x => x = a ∨ x = Y) M M' ∧ ∃ s', Nt M' a Y Cy s' ∧ dn (mI M' Y) s' = T) := fun c M1 gc o F L V => s_add107 h hm hT (m + 1) n c M1 (by omega) (by omega) gc o F L (V.trans eT.symm)
  intro t
  induction t with
  | zero =>
    intro i c M1 h1 h2 gc o F L V
    have ei : i = n := by omega
    subst ei
    have b1 : mI M1 b 1 = ((i : Nat) : Int) := by rw [F.2.2.2.2.2.2 b bY]; exact g1
    refine k_Na_add_40 o (l30i hf) ⟨by omega, by omega⟩ (c30 gc) ⟨by omega, by omega⟩ ?_
    rw [b1]
    exact ⟨by rw [F.1]; exact l0, fun _ => fin c M1 gc o F L V, fun y => absurd (Int.le_refl _) y⟩
  | succ t ih =>
    intro i c M1 h1 h2 gc o F L V
    by_cases ei : i = n
    · exact ih i c M1 (by omega) h2 gc o F L V
    have li : i < m + 1 := by omega
    have b1 : mI M1 b 1 = ((n : Nat) : Int) := by rw [F.2.2.2.2.2.2 b bY]; exact g1
    have iX : mI M1 X = mI M X := F.2.2.2.2.2.2 X XY
    have bd := add_bd hf gc (L i li) (g3 i (by omega))
    refine k_Na_add_40 o (l30i hf) ⟨by omega, by omega⟩ (c30 gc) ⟨by omega, by omega⟩ ?_
    rw [b1, F.1, F.2.1, F.2.2.1, h.2.1, h.2.2.2.1, p0, nX, iX, Int.toNat_natCast, j_and, j_ushr bd.1 (t30 bd)]
    refine ⟨l0, fun y => absurd y (by omega), fun y => ⟨h.1, h.2.2.1, by omega, kX, by omega, by omega, m30i _, fun M27 e27 => ?_⟩⟩
    rw [show ((i : Int) + 1) = ((i + 1 : Nat) : Int) by omega]
    refine ih (i + 1) _ M27 (by omega) (by omega) (q30 bd) (by rw [e27]; exact mOk_UI o (m30i _)) (F.trans (by rw [e27]; exact FI.ui rfl)) (lim_ui L (m30 _) e27) ?_
    rw [c_st (i := i) (dn_ui (M' := M27) li e27), dn_s (mI M X) i]
    exact al_add V
theorem hm_add {f l c i : Int} {Q Q' : mM → Prop} (h : h_Na_add_40 G d a b f l c i M Q) (hq : ∀ M', Q M' → Q' M') : h_Na_add_40 G d a b f l c i M Q' := by
  unfold h_Na_add_40 at h ⊢
  exact mWm.mono h (fun r M' k => ⟨k.1, hq M' k.2⟩)
theorem add_T {f x z p : Int} (hf : 0 ≤ f ∧ f < 1073741824) (hx : x < p) (hz : 0 ≤ z ∧ z < p) : x + f * z < p * 1073741824 := by
  have h2 : f * z ≤ 1073741823 * z := Int.mul_le_mul_of_nonneg_right (by omega) hz.1
  omega
theorem s_Na_add {f : Int} (hf : 0 ≤ f ∧ f < 1073741824) (hO : mOk M) (h : Nt M a Y Cy s) (k : Nt M b X Cx n) (ab : a ≠ b) (YX : Y ≠ X) (hC : Cy ≤ 50000) (hs : s ≤ m) (hn : n ≤ m) (em : s = m ∨ n = m) (hm : m < 50000) : Cv G y_Na_add (d + 3) [vr a, vr b, vi f] M (nst M a Y Cy (m + 1) (dn (mI M Y) s + f * dn (mI M X) n)) := by
  obtain ⟨hl, h1, h2, h3, h4⟩ := id h
  obtain ⟨k0, r0, kY, nY, ⟨c1, c2⟩, ne, z1, z2⟩ := id hl
  obtain ⟨⟨l0, p0, kX, nX, ⟨e1, e2⟩, -, y1, y2⟩, g1, g2, g3, g4⟩ := id k
  have bY : b ≠ Y := fun u => by rw [u, kY] at l0; omega
  refine k_Na_add hO (l30i hf) ?_
  rw [h1, g1, show (if ((s : Nat) : Int) < ((n : Nat) : Int) then ((n : Nat) : Int) else ((s : Nat) : Int)) = ((m : Nat) : Int) by split <;> omega, show ((m : Nat) : Int) + 1 = ((m + 1 : Nat) : Int) by omega]
  refine ⟨k0, l0, (s_Na_reserve hO hl (by omega) hC).mono (fun M3 q => ?_)⟩
  obtain ⟨o3, Y', C', h3', hw, hC', F3, R3, I3, G3⟩ := q
  have yn : Y' = Y ∨ Y' = mZ M := by
    rcases G3 with ⟨u, -⟩ | ⟨u, -⟩
    · exact Or.inl u
    · exact Or.inr u
  have XY' : X ≠ Y' := by rcases yn with u | u <;> omega
  have bY' : b ≠ Y' := by rcases yn with u | u <;> omega
  have a3 : mI M3 a 1 = ((s : Nat) : Int) := by rw [(F3.2 a z1).2.2.2.2 (fun u => u)]; exact h1
  have k3 : Nt M3 b X Cx n := by
    refine ⟨⟨by rw [(F3.2 b y1).1]; exact l0, by rw [(F3.2 b y1).2.2.2.1 (fun u => ab u.symm)]; exact p0, by rw [(F3.2 X y2).1]; exact kX, by rw [(F3.2 X y2).2.1]; exact nX, ⟨e1, e2⟩, fun u => by rw [u, kX] at l0; omega, Nat.lt_of_lt_of_le y1 F3.1.1, Nat.lt_of_lt_of_le y2 F3.1.1⟩, by rw [(F3.2 b y1).2.2.2.2 (fun u => u)]; exact g1, g2, fun j hj => by rw [(F3.2 X y2).2.2.2.2 (fun u => u)]; exact g3 j hj, fun u => by rw [(F3.2 X y2).2.2.2.2 (fun u => u)]; exact g4 u⟩
  have iX : mI M3 X = mI M X := (F3.2 X y2).2.2.2.2 (fun u => u)
  obtain ⟨-, r0', kY', nY', ⟨-, c2'⟩, ne', -⟩ := id h3'
  refine ⟨o3, h3'.1, ?_⟩
  rw [r0', a3]
  refine (s_JA_fillR o3 kY' (by omega) (by omega) (by omega) ⟨by decide, by decide⟩).mono (fun M7 q => ?_)
  obtain ⟨o7, f7, i7⟩ := q
  have L7 : lim M7 Y' (m + 1) := fun j hj => by
    rw [i7 j]
    by_cases u : s ≤ j ∧ j < m + 1
    · rw [if_pos u]; omega
    · rw [if_neg u, I3 j (by omega)]; exact h3 j (by omega)
  have D7 : dn (mI M7 Y') (m + 1) = dn (mI M Y) s := by
    rw [dn_z (s := s) (by omega) (fun j u1 u2 => by rw [i7 j, if_pos ⟨u1, u2⟩])]
    exact dn_cg s (fun j hj => by rw [i7 j, if_neg (by omega), I3 j (by omega)])
  have k7 : Nt M7 b X Cx n := by
    obtain ⟨q1, q2, q3, q4, q5⟩ := k3
    exact ⟨q1.fi f7, by rw [f7.2.2.2.2.2.2 b bY']; exact q2, q3, fun j hj => by rw [f7.2.2.2.2.2.2 X XY']; exact q4 j hj, fun u => by rw [f7.2.2.2.2.2.2 X XY']; exact q5 u⟩
  have T7 : dn (mI M7 Y') (m + 1) + f * dn (mI M7 X) n < 2 ^ (30 * (m + 1)) := by
    rw [p30, f7.2.2.2.2.2.2 X XY', iX, D7]
    exact add_T hf (Int.lt_of_lt_of_le (dn_lt h3) (p30m hs)) ⟨dn_nn g3, Int.lt_of_lt_of_le (dn_lt g3) (p30m hn)⟩
  refine ⟨o7, hm_add (s_add40 (T := dn (mI M7 Y') (m + 1) + f * dn (mI M7 X) n) hf (h3'.fi f7) k7 (by omega) hn bY' XY' T7 rfl n 0 0 M7 (by omega) (by omega) ⟨by decide, by decide⟩ o7 FI.refl L7 (by show _ + 0 * _ = _ + _ * 0; rw [Int.zero_mul, Int.mul_zero])) (fun M' q => ?_)⟩
  obtain ⟨o, F, s', T, V⟩ := q
  refine nst_rs F3 G3 ((f7.mono (fun _ u => Or.inr u)).trans F) o T ?_
  rw [V, D7, f7.2.2.2.2.2.2 X XY', iX]
end NAE
end
section
/-! The class's natural numbers: a product. -/
section NAF
variable {G : mG} {d a b c Y Cy s n m X Cx Z Cz w : Nat} {M M' M1 M2 M3 : mM} {v : Int}
/-- a number that is not touched -/
theorem Nt.fi {S : Nat → Prop} (h : Nt M b X Cx n) (f : FI S M M') (hb : ¬ S b) (hX : ¬ S X) : Nt M' b X Cx n := by
  obtain ⟨q1, q2, q3, q4, q5⟩ := h
  exact ⟨q1.fi f, by rw [f.2.2.2.2.2.2 b hb]; exact q2, q3, fun j hj => by rw [f.2.2.2.2.2.2 X hX]; exact q4 j hj, fun u => by rw [f.2.2.2.2.2.2 X hX]; exact q5 u⟩
theorem Nt.fa {S R : Nat → Prop} (h : Nt M b X Cx n) (F : FA S R M M') (hb : ¬ S b) (hX : ¬ S X) (rb : ¬ R b) : Nt M' b X Cx n := by
  obtain ⟨⟨l0, p0, kX, nX, e, ne, y1, y2⟩, g1, g2, g3, g4⟩ := h
  exact ⟨⟨by rw [(F.2 b y1).1]; exact l0, by rw [(F.2 b y1).2.2.2.1 rb]; exact p0, by rw [(F.2 X y2).1]; exact kX, by rw [(F.2 X y2).2.1]; exact nX, e, ne, Nat.lt_of_lt_of_le y1 F.1.1, Nat.lt_of_lt_of_le y2 F.1.1⟩, by rw [(F.2 b y1).2.2.2.2 hb]; exact g1, g2, fun j hj => by rw [(F.2 X y2).2.2.2.2 hX]; exact g3 j hj, fun u => by rw [(F.2 X y2).2.2.2.2 hX]; exact g4 u⟩
/-- one limb times the other number -/
theorem s_pr56 {f : Int} {N i : Nat} {Q : mM → Prop} (hf : 0 ≤ f ∧ f < 1073741824) (h : Nl M a Y Cy) (k : Nt M c Z Cz m) (hN : N ≤ Cy) (hi : i + m < N) (cY : c ≠ Y) (ZY : Z ≠ Y)
    (hQ : ∀ M', mOk M' → FI (fun x => x = Y) M M' → lim M' Y N → (∀ j, i + 1 + m ≤ j → j < N → mI M' Y j = mI M Y j) → dn (mI M' Y) N = dn (mI M Y) N + f * (2 ^ (30 * i) * dn (mI M Z) m) → h_Na_putProduct_33 G d a b c ((i + 1 : Nat) : Int) M' Q)
    (z : mI M Y (i + m) = 0) : ∀ (t j : Nat) (e : Int) (M1 : mM), m ≤ j + t → j ≤ m → (0 ≤ e ∧ e < 1073741824) → mOk M1 → FI (fun x => x = Y) M M1 → lim M1 Y N → (∀ u, i + m ≤ u → u < N → mI M1 Y u = mI M Y u) → dn (mI M1 Y) N + e * (2 ^ (30 * i) * 2 ^ (30 * j)) = dn (mI M Y) N + f * (2 ^ (30 * i) * dn (mI M Z) j) → h_Na_putProduct_56 G d a b c i f e j M1 Q := by
  obtain ⟨⟨l0, p0, kX, nX, ⟨e1, e2⟩, -, y1, y2⟩, g1, g2, g3, g4⟩ := id k
  have cb := h.2.2.2.2.1.2
  intro t
  induction t with
  | zero =>
    intro j e M1 h1 h2 gc o F L U V
    have ej : j = m := by omega
    subst ej
    have b1 : mI M1 c 1 = ((j : Nat) : Int) := by rw [F.2.2.2.2.2.2 c cY]; exact g1
    refine k_Na_putProduct_56 o ⟨by omega, by omega⟩ (c30 hf) (c30 gc) ⟨by omega, by omega⟩ ?_
    rw [b1, F.1, F.2.1, F.2.2.1, h.2.1, h.2.2.2.1, show ((i : Nat) : Int) + ((j : Nat) : Int) = ((i + j : Nat) : Int) by omega, Int.toNat_natCast]
    refine ⟨l0, fun _ => ⟨h.1, h.2.2.1, by omega, l30i gc, fun M43 e43 => ?_⟩, fun y => absurd (Int.le_refl _) y⟩
    rw [show ((i : Int) + 1) = ((i + 1 : Nat) : Int) by omega]
    refine hQ M43 (by rw [e43]; exact mOk_UI o (l30i gc)) (F.trans (by rw [e43]; exact FI.ui rfl)) (lim_ui L gc e43) (fun u u1 u2 => by rw [mI_ui Y u e43, if_neg (fun q => by omega)]; exact U u (by omega) u2) ?_
    rw [dn_ui (M' := M43) hi e43, U (i + j) (Nat.le_refl _) hi, z, Int.sub_zero, p30a]
    exact V
  | succ t ih =>
    intro j e M1 h1 h2 gc o F L U V
    by_cases ej : j = m
    · exact ih j e M1 (by omega) h2 gc o F L U V
    have li : i + j < N := by omega
    have b1 : mI M1 c 1 = ((m : Nat) : Int) := by rw [F.2.2.2.2.2.2 c cY]; exact g1
    have iX : mI M1 Z = mI M Z := F.2.2.2.2.2.2 Z ZY
    have bd := add_bd hf gc (L (i + j) li) (g3 j (by omega))
    refine k_Na_putProduct_56 o ⟨by omega, by omega⟩ (c30 hf) (c30 gc) ⟨by omega, by omega⟩ ?_
    rw [b1, F.1, F.2.1, F.2.2.1, h.2.1, h.2.2.2.1, p0, nX, iX, show ((i : Nat) : Int) + ((j : Nat) : Int) = ((i + j : Nat) : Int) by omega, show ((i : Nat) : Int) + ((m : Nat) : Int) = ((i + m : Nat) : Int) by omega, Int.toNat_natCast, Int.toNat_natCast, Int.toNat_natCast, j_and, j_ushr bd.1 (t30 bd)]
    refine ⟨l0, fun y => absurd y (by omega), fun y => ⟨h.1, h.2.2.1, by omega, kX, by omega, by omega, m30i _, fun M27 e27 => ?_⟩⟩
    rw [show ((j : Int) + 1) = ((j + 1 : Nat) : Int) by omega]
    refine ih (j + 1) _ M27 (by omega) (by omega) (q30 bd) (by rw [e27]; exact mOk_UI o (m30i _)) (F.trans (by rw [e27]; exact FI.ui rfl)) (lim_ui L (m30 _) e27) (fun u u1 u2 => by rw [mI_ui Y u e27, if_neg (fun q => by omega)]; exact U u u1 u2) ?_
    rw [← p30a, show i + (j + 1) = i + j + 1 by omega, c_st (i := i + j) (dn_ui (M' := M27) li e27), dn_s (mI M Z) j, p30a]
    exact al_prod V
theorem al_row {D x z f p : Int} (h : D = x * z) : D + f * (p * z) = (x + f * p) * z := by rw [h, Int.add_mul, Int.mul_assoc]
theorem s_pr33 {N : Nat} (h : Nl M a Y Cy) (k1 : Nt M b X Cx n) (k : Nt M c Z Cz m) (hN : N ≤ Cy) (eN : N = n + m) (bY : b ≠ Y) (XY : X ≠ Y) (cY : c ≠ Y) (ZY : Z ≠ Y) : ∀ (t i : Nat) (M1 : mM), n ≤ i + t → i ≤ n → mOk M1 → FI (fun x => x = Y) M M1 → lim M1 Y N → (∀ u, i + m ≤ u → u < N → mI M1 Y u = 0) → dn (mI M1 Y) N = dn (mI M X) i * dn (mI M Z) m → h_Na_putProduct_33 G d a b c i M1 (fun M' => mOk M' ∧ FI (fun x => x = a ∨ x = Y) M M' ∧ ∃ s', Nt M' a Y Cy s' ∧ dn (mI M' Y) s' = dn (mI M X) n * dn (mI M Z) m) := by
  obtain ⟨⟨l0, p0, kX, nX, ⟨e1, e2⟩, -, y1, y2⟩, g1, g2, g3, g4⟩ := id k1
  have cb := h.2.2.2.2.1.2
  intro t
  induction t with
  | zero =>
    intro i M1 h1 h2 o F L U V
    have ei : i = n := by omega
    subst ei
    have b1 : mI M1 b 1 = ((i : Nat) : Int) := by rw [F.2.2.2.2.2.2 b bY]; exact g1
    have c1 : mI M1 c 1 = ((m : Nat) : Int) := by rw [F.2.2.2.2.2.2 c cY]; exact k.2.1
    refine k_Na_putProduct_33 o ⟨by omega, by omega⟩ ?_
    rw [b1, c1, F.1, show ((i : Nat) : Int) + ((m : Nat) : Int) = ((N : Nat) : Int) by omega]
    refine ⟨l0, fun _ => ⟨k.1.1, h.1, ?_⟩, fun y => absurd (Int.le_refl _) y⟩
    refine (s_Na_trim o (h.fi F) hN L).mono (fun M' q => ?_)
    obtain ⟨o', F', -, s', -, t', e'⟩ := q
    exact ⟨o', o', (F.mono (fun _ u => Or.inr u)).trans (F'.mono (fun _ u => Or.inl u)), s', t', by rw [e', V]⟩
  | succ t ih =>
    intro i M1 h1 h2 o F L U V
    by_cases ei : i = n
    · exact ih i M1 (by omega) h2 o F L U V
    have b1 : mI M1 b 1 = ((n : Nat) : Int) := by rw [F.2.2.2.2.2.2 b bY]; exact g1
    have iX : mI M1 X = mI M X := F.2.2.2.2.2.2 X XY
    have iZ : mI M1 Z = mI M Z := F.2.2.2.2.2.2 Z ZY
    have im : i + m < N := by omega
    refine k_Na_putProduct_33 o ⟨by omega, by omega⟩ ?_
    rw [b1, F.1, F.2.1, F.2.2.1, p0, nX, iX, Int.toNat_natCast]
    refine ⟨l0, fun y => absurd y (by omega), fun y => ⟨kX, by omega, ?_⟩⟩
    have kM1 := k.fi F cY ZY
    refine s_pr56 (M := M1) (N := N) (g3 i (by omega)) (h.fi F) kM1 hN im cY ZY (fun M' o' F' L' U' V' => ?_) (U (i + m) (Nat.le_refl _) im) m 0 0 M1 (by omega) (by omega) ⟨by decide, by decide⟩ o FI.refl L (fun _ _ _ => rfl) (by show _ + 0 * _ = _ + _ * (_ * 0); rw [Int.zero_mul, Int.mul_zero, Int.mul_zero])
    refine ih (i + 1) M' (by omega) (by omega) o' (F.trans F') L' (fun u u1 u2 => by rw [U' u u1 u2]; exact U u (by omega) u2) ?_
    rw [V', iZ, dn_s]
    exact al_row V
theorem hm_pr {i : Int} {Q Q' : mM → Prop} (h : h_Na_putProduct_33 G d a b c i M Q) (hq : ∀ M', Q M' → Q' M') : h_Na_putProduct_33 G d a b c i M Q' := by
  unfold h_Na_putProduct_33 at h ⊢
  exact mWm.mono h (fun r M' k => ⟨k.1, hq M' k.2⟩)
theorem s_Na_putProduct (hO : mOk M) (hl : Nl M a Y Cy) (k1 : Nt M b X Cx n) (k : Nt M c Z Cz m) (ab : a ≠ b) (ac : a ≠ c) (YX : Y ≠ X) (YZ : Y ≠ Z) (hC : Cy ≤ 50000) (hm : n + m ≤ 50000) : Cv G y_Na_putProduct (d + 3) [vr a, vr b, vr c] M (nst M a Y Cy (n + m) (dn (mI M X) n * dn (mI M Z) m)) := by
  obtain ⟨k0, r0, kY, nY, ⟨c1, c2⟩, ne, z1, z2⟩ := id hl
  have yb := k1.1.2.2.2.2.2.2
  have yc := k.1.2.2.2.2.2.2
  refine k_Na_putProduct hO ?_
  rw [k1.2.1, k.2.1, show ((n : Nat) : Int) + ((m : Nat) : Int) = ((n + m : Nat) : Int) by omega]
  refine ⟨k1.1.1, k.1.1, k0, (s_Na_reserve hO hl hm hC).mono (fun M3 q => ?_)⟩
  obtain ⟨o3, Y', C', h3', hw, hC', F3, R3, I3, G3⟩ := q
  have yn : Y' = Y ∨ Y' = mZ M := by
    rcases G3 with ⟨u, -⟩ | ⟨u, -⟩
    · exact Or.inl u
    · exact Or.inr u
  have kb : mK M b ≠ 30 := by rw [k1.1.1]; decide
  have kc : mK M c ≠ 30 := by rw [k.1.1]; decide
  have XY' : X ≠ Y' := by rcases yn with u | u <;> omega
  have ZY' : Z ≠ Y' := by rcases yn with u | u <;> omega
  have bY' : b ≠ Y' := by
    rcases yn with u | u
    · rw [u]; intro q; rw [q] at kb; exact kb kY
    · omega
  have cY' : c ≠ Y' := by
    rcases yn with u | u
    · rw [u]; intro q; rw [q] at kc; exact kc kY
    · omega
  have k13 := k1.fa F3 (fun u => u) (fun u => u) (fun u => ab u.symm)
  have k3 := k.fa F3 (fun u => u) (fun u => u) (fun u => ac u.symm)
  have iX : mI M3 X = mI M X := (F3.2 X yb.2).2.2.2.2 (fun u => u)
  have iZ : mI M3 Z = mI M Z := (F3.2 Z yc.2).2.2.2.2 (fun u => u)
  obtain ⟨-, r0', kY', nY', ⟨-, c2'⟩, ne', -⟩ := id h3'
  rw [r0', k13.2.1, k3.2.1, show ((n : Nat) : Int) + ((m : Nat) : Int) = ((n + m : Nat) : Int) by omega]
  refine ⟨o3, h3'.1, k13.1.1, k3.1.1, ?_⟩
  refine (s_JA_fillR (p := 0) o3 kY' (by omega) (by omega) (by omega) ⟨by decide, by decide⟩).mono (fun M7 q => ?_)
  obtain ⟨o7, f7, i7⟩ := q
  have z7 : ∀ j, j < n + m → mI M7 Y' j = 0 := fun j hj => by rw [i7 j, if_pos ⟨by omega, hj⟩]
  have L7 : lim M7 Y' (n + m) := fun j hj => by rw [z7 j hj]; exact ⟨by decide, by decide⟩
  have D7 : dn (mI M7 Y') (n + m) = 0 := dn_z (s := 0) (by omega) (fun j _ u2 => z7 j u2)
  refine ⟨o7, hm_pr (s_pr33 (h3'.fi f7) (k13.fi f7 bY' XY') (k3.fi f7 cY' ZY') hw rfl bY' XY' cY' ZY' n 0 M7 (by omega) (by omega) o7 FI.refl L7 (fun u _ u2 => z7 u u2) (by rw [D7]; show (0 : Int) = 0 * _; rw [Int.zero_mul])) (fun M' q => ?_)⟩
  obtain ⟨o, F, s', T, V⟩ := q
  refine nst_rs F3 G3 ((f7.mono (fun _ u => Or.inr u)).trans F) o T ?_
  rw [V, f7.2.2.2.2.2.2 X XY', f7.2.2.2.2.2.2 Z ZY', iX, iZ]
end NAF
end
