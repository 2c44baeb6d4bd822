/-! The class's natural numbers: a sum. -/
section NAE
variable {G : mG} {d a b Y Cy s n m X Cx w : Nat} {M M' M1 M2 M3 : mM} {v : Int}
theorem add_bd {f c l x : Int} (hf : 0 ≤ f ∧ f < 1073741824) (hc : 0 ≤ c ∧ c < 1073741824) (hl : 0 ≤ l ∧ l < 1073741824) (hx : 0 ≤ x ∧ x < 1073741824) : 0 ≤ c + (l + f * x) ∧ c + (l + f * x) < 1152921504606846976 := by
  have h1 := Int.mul_nonneg hf.1 hx.1
  have h2 : f * x ≤ 1073741823 * x := Int.mul_le_mul_of_nonneg_right (by omega) hx.1
  omega
theorem q30 {x : Int} (h : 0 ≤ x ∧ x < 1152921504606846976) : 0 ≤ x / 1073741824 ∧ x / 1073741824 < 1073741824 := by omega
theorem c30 {c : Int} (h : 0 ≤ c ∧ c < 1073741824) : i64 c := ⟨by omega, by omega⟩
theorem t30 {x : Int} (h : 0 ≤ x ∧ x < 1152921504606846976) : x < 9223372036854775808 := by omega
/-- the carry goes on -/
theorem s_add107 {T : Int} (h : Nl M a Y Cy) (hm : m < Cy) (hT : T < 2 ^ (30 * (m + 1))) : ∀ (t i : Nat) (c : Int) (M1 : mM), m + 1 ≤ i + t → i ≤ m + 1 → (0 ≤ c ∧ c < 1073741824) → mOk M1 → FI (fun x => x = Y) M M1 → lim M1 Y (m + 1) → dn (mI M1 Y) (m + 1) + c * 2 ^ (30 * i) = T → h_Na_add_107 G d a m c i M1 (fun M' => mOk M' ∧ FI (fun x => x = a ∨ x = Y) M M' ∧ ∃ s', Nt M' a Y Cy s' ∧ dn (mI M' Y) s' = T) := by
  have cb := h.2.2.2.2.1.2
  have fin : ∀ (M1 : mM), mOk M1 → FI (fun x => x = Y) M M1 → lim M1 Y (m + 1) → dn (mI M1 Y) (m + 1) = T → mK M1 a = 10 ∧ Cv G y_Na_trim d [vr a, vi ((m : Int) + 1)] M1 (fun M39 => mOk M39 ∧ (mOk M39 ∧ FI (fun x => x = a ∨ x = Y) M M39 ∧ ∃ s', Nt M39 a Y Cy s' ∧ dn (mI M39 Y) s' = T)) := by
    intro M1 o F L V
    refine ⟨by rw [F.1]; exact h.1, ?_⟩
    rw [show ((m : Int) + 1) = ((m + 1 : Nat) : Int) by omega]
    refine (s_Na_trim o (h.fi F) (by omega) L).mono (fun M' q => ?_)
    obtain ⟨o', F', -, s', -, t', e'⟩ := q
    exact ⟨o', o', (F.mono (fun _ u => Or.inr u)).trans (F'.mono (fun _ u => Or.inl u)), s', t', by rw [e', V]⟩
  intro t
  induction t with
  | zero =>
    intro i c M1 g1 g2 gc o F L V
    have ei : i = m + 1 := by omega
    subst ei
    have c0 : c = 0 := by
      have a1 := dn_nn L
      refine Classical.byContradiction (fun u => ?_)
      have a2 := Int.mul_le_mul_of_nonneg_right (show 1 ≤ c by omega) (Int.le_of_lt (p30p (m + 1)))
      omega
    rw [c0, Int.zero_mul, Int.add_zero] at V
    exact k_Na_add_107 o ⟨by omega, by omega⟩ (c30 gc) ⟨by omega, by omega⟩ ⟨fun _ => fin M1 o F L V, fun y => absurd (Or.inl (by omega)) y⟩
  | succ t ih =>
    intro i c M1 g1 g2 gc o F L V
    by_cases ei : i = m + 1
    · exact ih i c M1 (by omega) g2 gc o F L V
    have li : i < m + 1 := by omega
    refine k_Na_add_107 o ⟨by omega, by omega⟩ (c30 gc) ⟨by omega, by omega⟩ ⟨fun y => ?_, fun y => ?_⟩
    · have c0 : c = 0 := by
        rcases y with y | y
        · omega
        · exact j_c0.1 y
      rw [c0, Int.zero_mul, Int.add_zero] at V
      exact fin M1 o F L V
    · have Li := L i li
      have bd : 0 ≤ c + mI M1 Y i ∧ c + mI M1 Y i < 1152921504606846976 := by omega
      rw [F.1, F.2.1, F.2.2.1, h.2.1, h.2.2.2.1, Int.toNat_natCast, j_and, j_ushr bd.1 (t30 bd)]
      refine ⟨h.1, h.2.2.1, by omega, by omega, m30i _, fun M48 e48 => ?_⟩
      rw [show ((i : Int) + 1) = ((i + 1 : Nat) : Int) by omega]
      refine ih (i + 1) _ M48 (by omega) (by omega) (q30 bd) (by rw [e48]; exact mOk_UI o (m30i _)) (F.trans (by rw [e48]; exact FI.ui rfl)) (lim_ui L (m30 _) e48) ?_
      rw [c_st (i := i) (dn_ui (M' := M48) li e48)]
      exact al_car V
/-- the sum limb by limb -/
theorem s_add40 {f T : Int} (hf : 0 ≤ f ∧ f < 1073741824) (h : Nl M a Y Cy) (k : Nt M b X Cx n) (hm : m < Cy) (hn : n ≤ m) (bY : b ≠ Y) (XY : X ≠ Y) (hT : T < 2 ^ (30 * (m + 1))) (eT : T = dn (mI M Y) (m + 1) + f * dn (mI M X) n) : ∀ (t i : Nat) (c : Int) (M1 : mM), n ≤ i + t → i ≤ n → (0 ≤ c ∧ c < 1073741824) → mOk M1 → FI (fun x => x = Y) M M1 → lim M1 Y (m + 1) → dn (mI M1 Y) (m + 1) + c * 2 ^ (30 * i) = dn (mI M Y) (m + 1) + f * dn (mI M X) i → h_Na_add_40 G d a b f m c i M1 (fun M' => mOk M' ∧ FI (fun x => x = a ∨ x = Y) M M' ∧ ∃ s', Nt M' a Y Cy s' ∧ dn (mI M' Y) s' = T) := by
  obtain ⟨⟨l0, p0, kX, nX, ⟨e1, e2⟩, -, y1, y2⟩, g1, g2, g3, g4⟩ := id k
  have cb := h.2.2.2.2.1.2
  have fin : ∀ (c : Int) (M1 : mM), (0 ≤ c ∧ c < 1073741824) → mOk M1 → FI (fun x => x = Y) M M1 → lim M1 Y (m + 1) → dn (mI M1 Y) (m + 1) + c * 2 ^ (30 * n) = dn (mI M Y) (m + 1) + f * dn (mI M X) n → h_Na_add_107 G d a m c n M1 (fun M' => mOk M' ∧ FI (fun x => x = a ∨ x = Y) M M' ∧ ∃ s', Nt M' a Y Cy s' ∧ dn (mI M' Y) s' = T) := fun c M1 gc o F L V => s_add107 h hm hT (m + 1) n c M1 (by omega) (by omega) gc o F L (V.trans eT.symm)
  intro t
  induction t with
  | zero =>
    intro i c M1 h1 h2 gc o F L V
    have ei : i = n := by omega
    subst ei
    have b1 : mI M1 b 1 = ((i : Nat) : Int) := by rw [F.2.2.2.2.2.2 b bY]; exact g1
    refine k_Na_add_40 o (l30i hf) ⟨by omega, by omega⟩ (c30 gc) ⟨by omega, by omega⟩ ?_
    rw [b1]
    exact ⟨by rw [F.1]; exact l0, fun _ => fin c M1 gc o F L V, fun y => absurd (Int.le_refl _) y⟩
  | succ t ih =>
    intro i c M1 h1 h2 gc o F L V
    by_cases ei : i = n
    · exact ih i c M1 (by omega) h2 gc o F L V
    have li : i < m + 1 := by omega
    have b1 : mI M1 b 1 = ((n : Nat) : Int) := by rw [F.2.2.2.2.2.2 b bY]; exact g1
    have iX : mI M1 X = mI M X := F.2.2.2.2.2.2 X XY
    have bd := add_bd hf gc (L i li) (g3 i (by omega))
    refine k_Na_add_40 o (l30i hf) ⟨by omega, by omega⟩ (c30 gc) ⟨by omega, by omega⟩ ?_
    rw [b1, F.1, F.2.1, F.2.2.1, h.2.1, h.2.2.2.1, p0, nX, iX, Int.toNat_natCast, j_and, j_ushr bd.1 (t30 bd)]
    refine ⟨l0, fun y => absurd y (by omega), fun y => ⟨h.1, h.2.2.1, by omega, kX, by omega, by omega, m30i _, fun M27 e27 => ?_⟩⟩
    rw [show ((i : Int) + 1) = ((i + 1 : Nat) : Int) by omega]
    refine ih (i + 1) _ M27 (by omega) (by omega) (q30 bd) (by rw [e27]; exact mOk_UI o (m30i _)) (F.trans (by rw [e27]; exact FI.ui rfl)) (lim_ui L (m30 _) e27) ?_
    rw [c_st (i := i) (dn_ui (M' := M27) li e27), dn_s (mI M X) i]
    exact al_add V
theorem hm_add {f l c i : Int} {Q Q' : mM → Prop} (h : h_Na_add_40 G d a b f l c i M Q) (hq : ∀ M', Q M' → Q' M') : h_Na_add_40 G d a b f l c i M Q' := by
  unfold h_Na_add_40 at h ⊢
  exact mWm.mono h (fun r M' k => ⟨k.1, hq M' k.2⟩)
theorem add_T {f x z p : Int} (hf : 0 ≤ f ∧ f < 1073741824) (hx : x < p) (hz : 0 ≤ z ∧ z < p) : x + f * z < p * 1073741824 := by
  have h2 : f * z ≤ 1073741823 * z := Int.mul_le_mul_of_nonneg_right (by omega) hz.1
  omega
theorem s_Na_add {f : Int} (hf : 0 ≤ f ∧ f < 1073741824) (hO : mOk M) (h : Nt M a Y Cy s) (k : Nt M b X Cx n) (ab : a ≠ b) (YX : Y ≠ X) (hC : Cy ≤ 50000) (hs : s ≤ m) (hn : n ≤ m) (em : s = m ∨ n = m) (hm : m < 50000) : Cv G y_Na_add (d + 3) [vr a, vr b, vi f] M (nst M a Y Cy (m + 1) (dn (mI M Y) s + f * dn (mI M X) n)) := by
  obtain ⟨hl, h1, h2, h3, h4⟩ := id h
  obtain ⟨k0, r0, kY, nY, ⟨c1, c2⟩, ne, z1, z2⟩ := id hl
  obtain ⟨⟨l0, p0, kX, nX, ⟨e1, e2⟩, -, y1, y2⟩, g1, g2, g3, g4⟩ := id k
  have bY : b ≠ Y := fun u => by rw [u, kY] at l0; omega
  refine k_Na_add hO (l30i hf) ?_
  rw [h1, g1, show (if ((s : Nat) : Int) < ((n : Nat) : Int) then ((n : Nat) : Int) else ((s : Nat) : Int)) = ((m : Nat) : Int) by split <;> omega, show ((m : Nat) : Int) + 1 = ((m + 1 : Nat) : Int) by omega]
  refine ⟨k0, l0, (s_Na_reserve hO hl (by omega) hC).mono (fun M3 q => ?_)⟩
  obtain ⟨o3, Y', C', h3', hw, hC', F3, R3, I3, G3⟩ := q
  have yn : Y' = Y ∨ Y' = mZ M := by
    rcases G3 with ⟨u, -⟩ | ⟨u, -⟩
    · exact Or.inl u
    · exact Or.inr u
  have XY' : X ≠ Y' := by rcases yn with u | u <;> omega
  have bY' : b ≠ Y' := by rcases yn with u | u <;> omega
  have a3 : mI M3 a 1 = ((s : Nat) : Int) := by rw [(F3.2 a z1).2.2.2.2 (fun u => u)]; exact h1
  have k3 : Nt M3 b X Cx n := by
    refine ⟨⟨by rw [(F3.2 b y1).1]; exact l0, by rw [(F3.2 b y1).2.2.2.1 (fun u => ab u.symm)]; exact p0, by rw [(F3.2 X y2).1]; exact kX, by rw [(F3.2 X y2).2.1]; exact nX, ⟨e1, e2⟩, fun u => by rw [u, kX] at l0; omega, Nat.lt_of_lt_of_le y1 F3.1.1, Nat.lt_of_lt_of_le y2 F3.1.1⟩, by rw [(F3.2 b y1).2.2.2.2 (fun u => u)]; exact g1, g2, fun j hj => by rw [(F3.2 X y2).2.2.2.2 (fun u => u)]; exact g3 j hj, fun u => by rw [(F3.2 X y2).2.2.2.2 (fun u => u)]; exact g4 u⟩
  have iX : mI M3 X = mI M X := (F3.2 X y2).2.2.2.2 (fun u => u)
  obtain ⟨-, r0', kY', nY', ⟨-, c2'⟩, ne', -⟩ := id h3'
  refine ⟨o3, h3'.1, ?_⟩
  rw [r0', a3]
  refine (s_JA_fillR o3 kY' (by omega) (by omega) (by omega) ⟨by decide, by decide⟩).mono (fun M7 q => ?_)
  obtain ⟨o7, f7, i7⟩ := q
  have L7 : lim M7 Y' (m + 1) := fun j hj => by
    rw [i7 j]
    by_cases u : s ≤ j ∧ j < m + 1
    · rw [if_pos u]; omega
    · rw [if_neg u, I3 j (by omega)]; exact h3 j (by omega)
  have D7 : dn (mI M7 Y') (m + 1) = dn (mI M Y) s := by
    rw [dn_z (s := s) (by omega) (fun j u1 u2 => by rw [i7 j, if_pos ⟨u1, u2⟩])]
    exact dn_cg s (fun j hj => by rw [i7 j, if_neg (by omega), I3 j (by omega)])
  have k7 : Nt M7 b X Cx n := by
    obtain ⟨q1, q2, q3, q4, q5⟩ := k3
    exact ⟨q1.fi f7, by rw [f7.2.2.2.2.2.2 b bY']; exact q2, q3, fun j hj => by rw [f7.2.2.2.2.2.2 X XY']; exact q4 j hj, fun u => by rw [f7.2.2.2.2.2.2 X XY']; exact q5 u⟩
  have T7 : dn (mI M7 Y') (m + 1) + f * dn (mI M7 X) n < 2 ^ (30 * (m + 1)) := by
    rw [p30, f7.2.2.2.2.2.2 X XY', iX, D7]
    exact add_T hf (Int.lt_of_lt_of_le (dn_lt h3) (p30m hs)) ⟨dn_nn g3, Int.lt_of_lt_of_le (dn_lt g3) (p30m hn)⟩
  refine ⟨o7, hm_add (s_add40 (T := dn (mI M7 Y') (m + 1) + f * dn (mI M7 X) n) hf (h3'.fi f7) k7 (by omega) hn bY' XY' T7 rfl n 0 0 M7 (by omega) (by omega) ⟨by decide, by decide⟩ o7 FI.refl L7 (by show _ + 0 * _ = _ + _ * 0; rw [Int.zero_mul, Int.mul_zero])) (fun M' q => ?_)⟩
  obtain ⟨o, F, s', T, V⟩ := q
  refine nst_rs F3 G3 ((f7.mono (fun _ u => Or.inr u)).trans F) o T ?_
  rw [V, D7, f7.2.2.2.2.2.2 X XY', iX]
end NAE
