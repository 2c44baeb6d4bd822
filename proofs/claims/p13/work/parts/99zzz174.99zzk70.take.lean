/-! The class's natural numbers: a multiple of the divisor is taken off (Knuth's step). -/
section NAI
variable {G : mG} {d a b c Y Cy s n m X Cx w K e : Nat} {M M' M1 M2 M3 : mM} {v U V g : Int}
/-- the window's value -/
def wn (M : mM) (Y e n : Nat) : Int := dn (fun j => mI M Y (e + j)) n
theorem wn_ui {i : Nat} {x : Int} (hi : i < n) (q : M' = mUI M Y (e + i) x) : wn M' Y e n = wn M Y e n + (x - mI M Y (e + i)) * 2 ^ (30 * i) := by
  unfold wn
  have h := dn_up (f := fun j => mI M Y (e + j)) (g := fun j => mI M' Y (e + j)) hi (fun j _ hj' => by show mI M' Y (e + j) = mI M Y (e + j); rw [mI_ui Y (e + j) q, if_neg (fun u => hj' (by omega))])
  rw [h]
  show _ + (mI M' Y (e + i) - mI M Y (e + i)) * _ = _
  rw [mI_ui Y (e + i) q, if_pos ⟨rfl, rfl⟩]
theorem wn_cg (h : ∀ j, j < n → mI M' Y (e + j) = mI M Y (e + j)) : wn M' Y e n = wn M Y e n := dn_cg n h
theorem wn_nn (L : lim M Y K) (h : e + n ≤ K) : 0 ≤ wn M Y e n := dn_nn (fun j hj => L (e + j) (by omega))
theorem wn_lt (L : lim M Y K) (h : e + n ≤ K) : wn M Y e n < 2 ^ (30 * n) := dn_lt (fun j hj => L (e + j) (by omega))
/-- what a step leaves behind -/
def tmQ (M : mM) (Y K e n : Nat) (U V : Int) (x : Int) (M' : mM) : Prop := mOk M' ∧ FI (fun y => y = Y) M M' ∧ (0 ≤ x ∧ x < 1073741824) ∧ (∀ j, (j < e ∨ e + n < j) → mI M' Y j = mI M Y j) ∧ mI M' Y (e + n) = 0 ∧ lim M' Y K ∧ wn M' Y e n = U - x * V ∧ wn M' Y e n < V
theorem tm_hi {W p k R V : Int} (hW : 0 ≤ W ∧ W < p) (e : R = W + k * p) (hR : 0 ≤ R ∧ R < p) : k = 0 := by
  refine Classical.byContradiction (fun u => ?_)
  rcases (show 1 ≤ k ∨ k ≤ -1 by omega) with q | q
  · have := Int.mul_le_mul_of_nonneg_right (c := p) q (by omega)
    omega
  · have := Int.mul_le_mul_of_nonneg_right (c := p) q (by omega)
    omega
/-- the divisor comes back once -/
theorem s_tm234 {q0 W1 : Int} (h : Nl M a Y Cy) (k : Nt M b X Cx n) (hK : e + n < K) (hC : K ≤ Cy) (bY : b ≠ Y) (XY : X ≠ Y) (hg : 1 ≤ g ∧ g < 1073741824)
    (eR : U - (g - 1) * V = W1 + q0 * 2 ^ (30 * n) + V) (eV : V = dn (mI M X) n) (hR : 0 ≤ U - (g - 1) * V ∧ U - (g - 1) * V < V) : ∀ (t i : Nat) (c : Int) (M1 : mM), n ≤ i + t → i ≤ n → (0 ≤ c ∧ c ≤ 1) → mOk M1 → FI (fun x => x = Y) M M1 → lim M1 Y K → (∀ j, (j < e ∨ e + n < j) → mI M1 Y j = mI M Y j) → mI M1 Y (e + n) = 0 → wn M1 Y e n + c * 2 ^ (30 * i) = W1 + dn (mI M X) i → h_Na_takeMultiple_234 G d a b e n g c i M1 (tmQ M Y K e n U V) := by
  obtain ⟨⟨l0, p0, kX, nX, ⟨e1, e2⟩, -, y1, y2⟩, g1, g2, g3, g4⟩ := id k
  have cb := h.2.2.2.2.1.2
  have fin : ∀ (c : Int) (M1 : mM), (0 ≤ c ∧ c ≤ 1) → mOk M1 → FI (fun x => x = Y) M M1 → lim M1 Y K → (∀ j, (j < e ∨ e + n < j) → mI M1 Y j = mI M Y j) → mI M1 Y (e + n) = 0 → wn M1 Y e n + c * 2 ^ (30 * n) = W1 + dn (mI M X) n → tmQ M Y K e n U V (g - 1) M1 := by
    intro c M1 gc o F L E Z W
    have wl := wn_nn L (show e + n ≤ K by omega)
    have wh := wn_lt L (show e + n ≤ K by omega)
    have Vl := dn_lt g3
    have eR2 : U - (g - 1) * V = wn M1 Y e n + (c + q0) * 2 ^ (30 * n) := by
      rw [eR, eV, Int.add_mul]
      omega
    have z0 := tm_hi (V := V) ⟨wl, wh⟩ eR2 ⟨hR.1, by omega⟩
    rw [z0, Int.zero_mul, Int.add_zero] at eR2
    exact ⟨o, F, ⟨by omega, by omega⟩, E, Z, L, eR2.symm, by omega⟩
  intro t
  induction t with
  | zero =>
    intro i c M1 h1 h2 gc o F L E Z W
    have ei : i = n := by omega
    subst ei
    exact k_Na_takeMultiple_234 o ⟨by omega, by omega⟩ ⟨by omega, by omega⟩ ⟨by omega, by omega⟩ ⟨by omega, by omega⟩ ⟨by omega, by omega⟩ ⟨fun _ => fin c M1 gc o F L E Z W, fun y => absurd (Int.le_refl _) y⟩
  | succ t ih =>
    intro i c M1 h1 h2 gc o F L E Z W
    by_cases ei : i = n
    · exact ih i c M1 (by omega) h2 gc o F L E Z W
    have iX : mI M1 X = mI M X := F.2.2.2.2.2.2 X XY
    have Li := L (e + i) (by omega)
    have Xi := g3 i (by omega)
    have bd : i64 (c + (mI M1 Y (e + i) + mI M X i)) := ⟨by omega, by omega⟩
    refine k_Na_takeMultiple_234 o ⟨by omega, by omega⟩ ⟨by omega, by omega⟩ ⟨by omega, by omega⟩ ⟨by omega, by omega⟩ ⟨by omega, by omega⟩ ⟨fun y => absurd y (by omega), fun y => ?_⟩
    rw [F.1, F.2.1, F.2.2.1, h.2.1, h.2.2.2.1, p0, nX, iX, show ((e : Nat) : Int) + ((i : Nat) : Int) = ((e + i : Nat) : Int) by omega, Int.toNat_natCast, Int.toNat_natCast, j_and, j_shr bd]
    refine ⟨h.1, h.2.2.1, by omega, l0, kX, by omega, ⟨by omega, by omega⟩, by omega, m30i _, fun M27 e27 => ?_⟩
    rw [show ((i : Int) + 1) = ((i + 1 : Nat) : Int) by omega]
    refine ih (i + 1) _ M27 (by omega) (by omega) ⟨by omega, by omega⟩ (by rw [e27]; exact mOk_UI o (m30i _)) (F.trans (by rw [e27]; exact FI.ui rfl)) (lim_ui L (m30 _) e27) (fun j hj => by rw [mI_ui Y j e27, if_neg (fun q => by omega)]; exact E j hj) (by rw [mI_ui Y (e + n) e27, if_neg (fun q => by omega)]; exact Z) ?_
    rw [c_st (i := i) (wn_ui (M' := M27) (show i < n by omega) e27), dn_s (mI M X) i]
    have := al_add (D1 := wn M1 Y e n) (D0 := W1) (c := c) (f := 1) (l := mI M1 Y (e + i)) (p := 2 ^ (30 * i)) (e := dn (mI M X) i) (x := mI M X i) (by rw [Int.one_mul]; exact W)
    rw [Int.one_mul, Int.one_mul] at this
    exact this
theorem sb_bd {f c l x : Int} (hf : 0 ≤ f ∧ f < 1073741824) (hc : -1073741824 ≤ c ∧ c ≤ 0) (hl : 0 ≤ l ∧ l < 1073741824) (hx : 0 ≤ x ∧ x < 1073741824) : i64 (c + (l - f * x)) ∧ -1073741824 ≤ (c + (l - f * x)) / 1073741824 ∧ (c + (l - f * x)) / 1073741824 ≤ 0 := by
  have h1 := Int.mul_nonneg hf.1 hx.1
  have h2 : f * x ≤ 1073741823 * x := Int.mul_le_mul_of_nonneg_right (by omega) hx.1
  unfold i64
  omega
/-- the multiple is taken off -/
theorem s_tm132 (h : Nl M a Y Cy) (k : Nt M b X Cx n) (hK : e + n < K) (hC : K ≤ Cy) (bY : b ≠ Y) (XY : X ≠ Y) (hg : 0 ≤ g ∧ g < 1073741824) (hL : lim M Y K) (eU : U = wn M Y e (n + 1)) (eV : V = dn (mI M X) n) (hV : 0 < V) (q1 : U < (g + 1) * V) (q0 : (g - 1) * V ≤ U) : ∀ (t i : Nat) (c : Int) (M1 : mM), n ≤ i + t → i ≤ n → (-1073741824 ≤ c ∧ c ≤ 0) → mOk M1 → FI (fun x => x = Y) M M1 → lim M1 Y K → (∀ j, (j < e ∨ e + n ≤ j) → mI M1 Y j = mI M Y j) → wn M1 Y e n + c * 2 ^ (30 * i) = wn M Y e n - g * dn (mI M X) i → h_Na_takeMultiple_132 G d a b e n g c i M1 (tmQ M Y K e n U V) := by
  obtain ⟨⟨l0, p0, kX, nX, ⟨e1, e2⟩, -, y1, y2⟩, g1, g2, g3, g4⟩ := id k
  have cb := h.2.2.2.2.1.2
  intro t
  induction t with
  | zero =>
    intro i c M1 h1 h2 gc o F L E W
    have ei : i = n := by omega
    subst ei
    have En : mI M1 Y (e + i) = mI M Y (e + i) := E (e + i) (Or.inr (Nat.le_refl _))
    have Ln := hL (e + i) (by omega)
    have eU2 : U = wn M Y e i + mI M Y (e + i) * 2 ^ (30 * i) := eU
    have R : U - g * V = wn M1 Y e i + (c + mI M Y (e + i)) * 2 ^ (30 * i) := by
      rw [eU2, eV, Int.add_mul]
      omega
    have wl := wn_nn L (show e + i ≤ K by omega)
    have wh := wn_lt L (show e + i ≤ K by omega)
    have Vl := dn_lt g3
    have kq := kn_q q1 q0 R
    have hp := p30p i
    refine k_Na_takeMultiple_132 o ⟨by omega, by omega⟩ ⟨by omega, by omega⟩ ⟨by omega, by omega⟩ ⟨by omega, by omega⟩ ⟨by omega, by omega⟩ ⟨fun _ => ?_, fun y => absurd (Int.le_refl _) y⟩
    rw [F.1, F.2.1, F.2.2.1, h.2.1, h.2.2.2.1, show ((e : Nat) : Int) + ((i : Nat) : Int) = ((e + i : Nat) : Int) by omega, Int.toNat_natCast, En]
    refine ⟨h.1, h.2.2.1, by omega, by omega, fun M46 e46 => ⟨⟨by omega, by omega⟩, fun y => ?_, fun y => ?_⟩⟩
    · have neg := j_cn.1 y
      have o46 : mOk M46 := by rw [e46]; exact mOk_UI o ⟨by decide, by decide⟩
      have F46 : FI (fun x => x = Y) M M46 := F.trans (by rw [e46]; exact FI.ui rfl)
      have W46 : wn M46 Y e i = wn M1 Y e i := wn_cg (fun j hj => by rw [mI_ui Y (e + j) e46, if_neg (fun q => by omega)])
      have Rn : wn M1 Y e i + (c + mI M Y (e + i)) * 2 ^ (30 * i) < 0 := by
        have := Int.mul_le_mul_of_nonneg_right (show c + mI M Y (e + i) ≤ -1 by omega) (Int.le_of_lt hp)
        omega
      have hg1 : 1 ≤ g := by
        refine Classical.byContradiction (fun u => ?_)
        have : g = 0 := by omega
        rw [this, Int.zero_mul, Int.sub_zero] at R
        have := wn_nn hL (show e + (i + 1) ≤ K by omega)
        omega
      have r1 := kq.2 Rn
      refine s_tm234 (q0 := c + mI M Y (e + i)) (W1 := wn M1 Y e i) h k hK hC bY XY ⟨hg1, hg.2⟩ (by rw [Int.sub_mul, Int.one_mul]; omega) eV (by rw [Int.sub_mul, Int.one_mul]; omega) i 0 0 M46 (by omega) (by omega) ⟨by decide, by decide⟩ o46 F46 (lim_ui L ⟨by decide, by decide⟩ e46) (fun j hj => by rw [mI_ui Y j e46, if_neg (fun q => by omega)]; exact E j (by omega)) (by rw [mI_ui Y (e + i) e46, if_pos ⟨rfl, rfl⟩]) (by rw [W46]; show _ + 0 * _ = _ + (0 : Int); rw [Int.zero_mul])
    · have pos : 0 ≤ c + mI M Y (e + i) := by
        refine Classical.byContradiction (fun u => y (j_cn.2 (by omega)))
      have Rp : 0 ≤ wn M1 Y e i + (c + mI M Y (e + i)) * 2 ^ (30 * i) := by
        have := Int.mul_nonneg pos (Int.le_of_lt hp)
        omega
      have r1 := kq.1 Rp
      have z0 := tm_hi (V := V) ⟨wl, wh⟩ R ⟨by omega, by omega⟩
      have W46 : wn M46 Y e i = wn M1 Y e i := wn_cg (fun j hj => by rw [mI_ui Y (e + j) e46, if_neg (fun q => by omega)])
      rw [z0, Int.zero_mul, Int.add_zero] at R r1
      refine ⟨by rw [e46]; exact mOk_UI o ⟨by decide, by decide⟩, F.trans (by rw [e46]; exact FI.ui rfl), hg, fun j hj => by rw [mI_ui Y j e46, if_neg (fun q => by omega)]; exact E j (by omega), by rw [mI_ui Y (e + i) e46, if_pos ⟨rfl, rfl⟩], lim_ui L ⟨by decide, by decide⟩ e46, by rw [W46]; exact R.symm, by rw [W46]; exact r1⟩
  | succ t ih =>
    intro i c M1 h1 h2 gc o F L E W
    by_cases ei : i = n
    · exact ih i c M1 (by omega) h2 gc o F L E W
    have iX : mI M1 X = mI M X := F.2.2.2.2.2.2 X XY
    obtain ⟨b0, b1, b2⟩ := sb_bd hg gc (L (e + i) (by omega)) (g3 i (by omega))
    refine k_Na_takeMultiple_132 o ⟨by omega, by omega⟩ ⟨by omega, by omega⟩ ⟨by omega, by omega⟩ ⟨by omega, by omega⟩ ⟨by omega, by omega⟩ ⟨fun y => absurd y (by omega), fun y => ?_⟩
    rw [F.1, F.2.1, F.2.2.1, h.2.1, h.2.2.2.1, p0, nX, iX, show ((e : Nat) : Int) + ((i : Nat) : Int) = ((e + i : Nat) : Int) by omega, Int.toNat_natCast, Int.toNat_natCast, j_and, j_shr b0]
    refine ⟨h.1, h.2.2.1, by omega, l0, kX, by omega, by omega, m30i _, fun M27 e27 => ?_⟩
    rw [show ((i : Int) + 1) = ((i + 1 : Nat) : Int) by omega]
    refine ih (i + 1) _ M27 (by omega) (by omega) ⟨b1, b2⟩ (by rw [e27]; exact mOk_UI o (m30i _)) (F.trans (by rw [e27]; exact FI.ui rfl)) (lim_ui L (m30 _) e27) (fun j hj => by rw [mI_ui Y j e27, if_neg (fun q => by omega)]; exact E j hj) ?_
    rw [c_st (i := i) (wn_ui (M' := M27) (show i < n by omega) e27), dn_s (mI M X) i]
    exact al_sub W
end NAI
