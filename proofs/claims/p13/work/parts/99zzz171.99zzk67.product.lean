/-! The class's natural numbers: a product. -/
section NAF
variable {G : mG} {d a b c Y Cy s n m X Cx Z Cz w : Nat} {M M' M1 M2 M3 : mM} {v : Int}
/-- a number that is not touched -/
theorem Nt.fi {S : Nat → Prop} (h : Nt M b X Cx n) (f : FI S M M') (hb : ¬ S b) (hX : ¬ S X) : Nt M' b X Cx n := by
  obtain ⟨q1, q2, q3, q4, q5⟩ := h
  exact ⟨q1.fi f, by rw [f.2.2.2.2.2.2 b hb]; exact q2, q3, fun j hj => by rw [f.2.2.2.2.2.2 X hX]; exact q4 j hj, fun u => by rw [f.2.2.2.2.2.2 X hX]; exact q5 u⟩
theorem Nt.fa {S R : Nat → Prop} (h : Nt M b X Cx n) (F : FA S R M M') (hb : ¬ S b) (hX : ¬ S X) (rb : ¬ R b) : Nt M' b X Cx n := by
  obtain ⟨⟨l0, p0, kX, nX, e, ne, y1, y2⟩, g1, g2, g3, g4⟩ := h
  exact ⟨⟨by rw [(F.2 b y1).1]; exact l0, by rw [(F.2 b y1).2.2.2.1 rb]; exact p0, by rw [(F.2 X y2).1]; exact kX, by rw [(F.2 X y2).2.1]; exact nX, e, ne, Nat.lt_of_lt_of_le y1 F.1.1, Nat.lt_of_lt_of_le y2 F.1.1⟩, by rw [(F.2 b y1).2.2.2.2 hb]; exact g1, g2, fun j hj => by rw [(F.2 X y2).2.2.2.2 hX]; exact g3 j hj, fun u => by rw [(F.2 X y2).2.2.2.2 hX]; exact g4 u⟩
/-- one limb times the other number -/
theorem s_pr56 {f : Int} {N i : Nat} {Q : mM → Prop} (hf : 0 ≤ f ∧ f < 1073741824) (h : Nl M a Y Cy) (k : Nt M c Z Cz m) (hN : N ≤ Cy) (hi : i + m < N) (cY : c ≠ Y) (ZY : Z ≠ Y)
    (hQ : ∀ M', mOk M' → FI (fun x => x = Y) M M' → lim M' Y N → (∀ j, i + 1 + m ≤ j → j < N → mI M' Y j = mI M Y j) → dn (mI M' Y) N = dn (mI M Y) N + f * (2 ^ (30 * i) * dn (mI M Z) m) → h_Na_putProduct_33 G d a b c ((i + 1 : Nat) : Int) M' Q)
    (z : mI M Y (i + m) = 0) : ∀ (t j : Nat) (e : Int) (M1 : mM), m ≤ j + t → j ≤ m → (0 ≤ e ∧ e < 1073741824) → mOk M1 → FI (fun x => x = Y) M M1 → lim M1 Y N → (∀ u, i + m ≤ u → u < N → mI M1 Y u = mI M Y u) → dn (mI M1 Y) N + e * (2 ^ (30 * i) * 2 ^ (30 * j)) = dn (mI M Y) N + f * (2 ^ (30 * i) * dn (mI M Z) j) → h_Na_putProduct_56 G d a b c i f e j M1 Q := by
  obtain ⟨⟨l0, p0, kX, nX, ⟨e1, e2⟩, -, y1, y2⟩, g1, g2, g3, g4⟩ := id k
  have cb := h.2.2.2.2.1.2
  intro t
  induction t with
  | zero =>
    intro j e M1 h1 h2 gc o F L U V
    have ej : j = m := by omega
    subst ej
    have b1 : mI M1 c 1 = ((j : Nat) : Int) := by rw [F.2.2.2.2.2.2 c cY]; exact g1
    refine k_Na_putProduct_56 o ⟨by omega, by omega⟩ (c30 hf) (c30 gc) ⟨by omega, by omega⟩ ?_
    rw [b1, F.1, F.2.1, F.2.2.1, h.2.1, h.2.2.2.1, show ((i : Nat) : Int) + ((j : Nat) : Int) = ((i + j : Nat) : Int) by omega, Int.toNat_natCast]
    refine ⟨l0, fun _ => ⟨h.1, h.2.2.1, by omega, l30i gc, fun M43 e43 => ?_⟩, fun y => absurd (Int.le_refl _) y⟩
    rw [show ((i : Int) + 1) = ((i + 1 : Nat) : Int) by omega]
    refine hQ M43 (by rw [e43]; exact mOk_UI o (l30i gc)) (F.trans (by rw [e43]; exact FI.ui rfl)) (lim_ui L gc e43) (fun u u1 u2 => by rw [mI_ui Y u e43, if_neg (fun q => by omega)]; exact U u (by omega) u2) ?_
    rw [dn_ui (M' := M43) hi e43, U (i + j) (Nat.le_refl _) hi, z, Int.sub_zero, p30a]
    exact V
  | succ t ih =>
    intro j e M1 h1 h2 gc o F L U V
    by_cases ej : j = m
    · exact ih j e M1 (by omega) h2 gc o F L U V
    have li : i + j < N := by omega
    have b1 : mI M1 c 1 = ((m : Nat) : Int) := by rw [F.2.2.2.2.2.2 c cY]; exact g1
    have iX : mI M1 Z = mI M Z := F.2.2.2.2.2.2 Z ZY
    have bd := add_bd hf gc (L (i + j) li) (g3 j (by omega))
    refine k_Na_putProduct_56 o ⟨by omega, by omega⟩ (c30 hf) (c30 gc) ⟨by omega, by omega⟩ ?_
    rw [b1, F.1, F.2.1, F.2.2.1, h.2.1, h.2.2.2.1, p0, nX, iX, show ((i : Nat) : Int) + ((j : Nat) : Int) = ((i + j : Nat) : Int) by omega, show ((i : Nat) : Int) + ((m : Nat) : Int) = ((i + m : Nat) : Int) by omega, Int.toNat_natCast, Int.toNat_natCast, Int.toNat_natCast, j_and, j_ushr bd.1 (t30 bd)]
    refine ⟨l0, fun y => absurd y (by omega), fun y => ⟨h.1, h.2.2.1, by omega, kX, by omega, by omega, m30i _, fun M27 e27 => ?_⟩⟩
    rw [show ((j : Int) + 1) = ((j + 1 : Nat) : Int) by omega]
    refine ih (j + 1) _ M27 (by omega) (by omega) (q30 bd) (by rw [e27]; exact mOk_UI o (m30i _)) (F.trans (by rw [e27]; exact FI.ui rfl)) (lim_ui L (m30 _) e27) (fun u u1 u2 => by rw [mI_ui Y u e27, if_neg (fun q => by omega)]; exact U u u1 u2) ?_
    rw [← p30a, show i + (j + 1) = i + j + 1 by omega, c_st (i := i + j) (dn_ui (M' := M27) li e27), dn_s (mI M Z) j, p30a]
    exact al_prod V
theorem al_row {D x z f p : Int} (h : D = x * z) : D + f * (p * z) = (x + f * p) * z := by rw [h, Int.add_mul, Int.mul_assoc]
theorem s_pr33 {N : Nat} (h : Nl M a Y Cy) (k1 : Nt M b X Cx n) (k : Nt M c Z Cz m) (hN : N ≤ Cy) (eN : N = n + m) (bY : b ≠ Y) (XY : X ≠ Y) (cY : c ≠ Y) (ZY : Z ≠ Y) : ∀ (t i : Nat) (M1 : mM), n ≤ i + t → i ≤ n → mOk M1 → FI (fun x => x = Y) M M1 → lim M1 Y N → (∀ u, i + m ≤ u → u < N → mI M1 Y u = 0) → dn (mI M1 Y) N = dn (mI M X) i * dn (mI M Z) m → h_Na_putProduct_33 G d a b c i M1 (fun M' => mOk M' ∧ FI (fun x => x = a ∨ x = Y) M M' ∧ ∃ s', Nt M' a Y Cy s' ∧ dn (mI M' Y) s' = dn (mI M X) n * dn (mI M Z) m) := by
  obtain ⟨⟨l0, p0, kX, nX, ⟨e1, e2⟩, -, y1, y2⟩, g1, g2, g3, g4⟩ := id k1
  have cb := h.2.2.2.2.1.2
  intro t
  induction t with
  | zero =>
    intro i M1 h1 h2 o F L U V
    have ei : i = n := by omega
    subst ei
    have b1 : mI M1 b 1 = ((i : Nat) : Int) := by rw [F.2.2.2.2.2.2 b bY]; exact g1
    have c1 : mI M1 c 1 = ((m : Nat) : Int) := by rw [F.2.2.2.2.2.2 c cY]; exact k.2.1
    refine k_Na_putProduct_33 o ⟨by omega, by omega⟩ ?_
    rw [b1, c1, F.1, show ((i : Nat) : Int) + ((m : Nat) : Int) = ((N : Nat) : Int) by omega]
    refine ⟨l0, fun _ => ⟨k.1.1, h.1, ?_⟩, fun y => absurd (Int.le_refl _) y⟩
    refine (s_Na_trim o (h.fi F) hN L).mono (fun M' q => ?_)
    obtain ⟨o', F', -, s', -, t', e'⟩ := q
    exact ⟨o', o', (F.mono (fun _ u => Or.inr u)).trans (F'.mono (fun _ u => Or.inl u)), s', t', by rw [e', V]⟩
  | succ t ih =>
    intro i M1 h1 h2 o F L U V
    by_cases ei : i = n
    · exact ih i M1 (by omega) h2 o F L U V
    have b1 : mI M1 b 1 = ((n : Nat) : Int) := by rw [F.2.2.2.2.2.2 b bY]; exact g1
    have iX : mI M1 X = mI M X := F.2.2.2.2.2.2 X XY
    have iZ : mI M1 Z = mI M Z := F.2.2.2.2.2.2 Z ZY
    have im : i + m < N := by omega
    refine k_Na_putProduct_33 o ⟨by omega, by omega⟩ ?_
    rw [b1, F.1, F.2.1, F.2.2.1, p0, nX, iX, Int.toNat_natCast]
    refine ⟨l0, fun y => absurd y (by omega), fun y => ⟨kX, by omega, ?_⟩⟩
    have kM1 := k.fi F cY ZY
    refine s_pr56 (M := M1) (N := N) (g3 i (by omega)) (h.fi F) kM1 hN im cY ZY (fun M' o' F' L' U' V' => ?_) (U (i + m) (Nat.le_refl _) im) m 0 0 M1 (by omega) (by omega) ⟨by decide, by decide⟩ o FI.refl L (fun _ _ _ => rfl) (by show _ + 0 * _ = _ + _ * (_ * 0); rw [Int.zero_mul, Int.mul_zero, Int.mul_zero])
    refine ih (i + 1) M' (by omega) (by omega) o' (F.trans F') L' (fun u u1 u2 => by rw [U' u u1 u2]; exact U u (by omega) u2) ?_
    rw [V', iZ, dn_s]
    exact al_row V
theorem hm_pr {i : Int} {Q Q' : mM → Prop} (h : h_Na_putProduct_33 G d a b c i M Q) (hq : ∀ M', Q M' → Q' M') : h_Na_putProduct_33 G d a b c i M Q' := by
  unfold h_Na_putProduct_33 at h ⊢
  exact mWm.mono h (fun r M' k => ⟨k.1, hq M' k.2⟩)
theorem s_Na_putProduct (hO : mOk M) (hl : Nl M a Y Cy) (k1 : Nt M b X Cx n) (k : Nt M c Z Cz m) (ab : a ≠ b) (ac : a ≠ c) (YX : Y ≠ X) (YZ : Y ≠ Z) (hC : Cy ≤ 50000) (hm : n + m ≤ 50000) : Cv G y_Na_putProduct (d + 3) [vr a, vr b, vr c] M (nst M a Y Cy (n + m) (dn (mI M X) n * dn (mI M Z) m)) := by
  obtain ⟨k0, r0, kY, nY, ⟨c1, c2⟩, ne, z1, z2⟩ := id hl
  have yb := k1.1.2.2.2.2.2.2
  have yc := k.1.2.2.2.2.2.2
  refine k_Na_putProduct hO ?_
  rw [k1.2.1, k.2.1, show ((n : Nat) : Int) + ((m : Nat) : Int) = ((n + m : Nat) : Int) by omega]
  refine ⟨k1.1.1, k.1.1, k0, (s_Na_reserve hO hl hm hC).mono (fun M3 q => ?_)⟩
  obtain ⟨o3, Y', C', h3', hw, hC', F3, R3, I3, G3⟩ := q
  have yn : Y' = Y ∨ Y' = mZ M := by
    rcases G3 with ⟨u, -⟩ | ⟨u, -⟩
    · exact Or.inl u
    · exact Or.inr u
  have kb : mK M b ≠ 30 := by rw [k1.1.1]; decide
  have kc : mK M c ≠ 30 := by rw [k.1.1]; decide
  have XY' : X ≠ Y' := by rcases yn with u | u <;> omega
  have ZY' : Z ≠ Y' := by rcases yn with u | u <;> omega
  have bY' : b ≠ Y' := by
    rcases yn with u | u
    · rw [u]; intro q; rw [q] at kb; exact kb kY
    · omega
  have cY' : c ≠ Y' := by
    rcases yn with u | u
    · rw [u]; intro q; rw [q] at kc; exact kc kY
    · omega
  have k13 := k1.fa F3 (fun u => u) (fun u => u) (fun u => ab u.symm)
  have k3 := k.fa F3 (fun u => u) (fun u => u) (fun u => ac u.symm)
  have iX : mI M3 X = mI M X := (F3.2 X yb.2).2.2.2.2 (fun u => u)
  have iZ : mI M3 Z = mI M Z := (F3.2 Z yc.2).2.2.2.2 (fun u => u)
  obtain ⟨-, r0', kY', nY', ⟨-, c2'⟩, ne', -⟩ := id h3'
  rw [r0', k13.2.1, k3.2.1, show ((n : Nat) : Int) + ((m : Nat) : Int) = ((n + m : Nat) : Int) by omega]
  refine ⟨o3, h3'.1, k13.1.1, k3.1.1, ?_⟩
  refine (s_JA_fillR (p := 0) o3 kY' (by omega) (by omega) (by omega) ⟨by decide, by decide⟩).mono (fun M7 q => ?_)
  obtain ⟨o7, f7, i7⟩ := q
  have z7 : ∀ j, j < n + m → mI M7 Y' j = 0 := fun j hj => by rw [i7 j, if_pos ⟨by omega, hj⟩]
  have L7 : lim M7 Y' (n + m) := fun j hj => by rw [z7 j hj]; exact ⟨by decide, by decide⟩
  have D7 : dn (mI M7 Y') (n + m) = 0 := dn_z (s := 0) (by omega) (fun j _ u2 => z7 j u2)
  refine ⟨o7, hm_pr (s_pr33 (h3'.fi f7) (k13.fi f7 bY' XY') (k3.fi f7 cY' ZY') hw rfl bY' XY' cY' ZY' n 0 M7 (by omega) (by omega) o7 FI.refl L7 (fun u _ u2 => z7 u u2) (by rw [D7]; show (0 : Int) = 0 * _; rw [Int.zero_mul])) (fun M' q => ?_)⟩
  obtain ⟨o, F, s', T, V⟩ := q
  refine nst_rs F3 G3 ((f7.mono (fun _ u => Or.inr u)).trans F) o T ?_
  rw [V, f7.2.2.2.2.2.2 X XY', f7.2.2.2.2.2.2 Z ZY', iX, iZ]
end NAF
