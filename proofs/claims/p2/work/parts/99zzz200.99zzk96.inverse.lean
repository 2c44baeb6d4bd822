section
/-! The Residues: inverses, rows. -/
section NBI
variable {G : mG} {d e n m i k rows : Nat} {M M0 M' M1 M2 M3 : mM} {P a b x y X Y : Int}
/-- on the way to an inverse -/
def InvI (P a b x y : Int) : Prop := (0 ≤ a ∧ a ≤ P) ∧ (0 ≤ b ∧ b ≤ P) ∧ ∃ X Y, (0 ≤ X ∧ X ≤ P) ∧ (0 ≤ Y ∧ Y ≤ P) ∧ ((x = X ∧ y = -Y) ∨ (x = -X ∧ y = Y)) ∧ a * Y + b * X = P
theorem inv_st (h : InvI P a b x y) (hb : 0 < b) : InvI P b (a - a / b * b) y (x - a / b * y) := by
  obtain ⟨⟨a0, a1⟩, ⟨b0, b1⟩, X, Y, ⟨X0, X1⟩, ⟨Y0, Y1⟩, s, e⟩ := h
  have q0 : 0 ≤ a / b := Int.ediv_nonneg a0 b0
  have r0 : 0 ≤ a - a / b * b := by have := Int.ediv_mul_le a (show b ≠ 0 by omega); omega
  have r1 : a - a / b * b < b := by have := Int.lt_ediv_add_one_mul_self a hb; rw [Int.add_mul, Int.one_mul] at this; omega
  have qY := Int.mul_nonneg q0 Y0
  generalize a / b = q at *
  have e' : b * (X + q * Y) + (a - q * b) * Y = P := by
    rw [Int.mul_add, Int.sub_mul, Int.mul_assoc, Int.mul_left_comm b q Y]
    have : b * X = b * X := rfl
    omega
  have rY := Int.mul_nonneg r0 Y0
  have bX := Int.mul_le_mul_of_nonneg_right (show 1 ≤ b by omega) (show 0 ≤ X + q * Y by omega)
  refine ⟨⟨b0, b1⟩, ⟨r0, by omega⟩, Y, X + q * Y, ⟨Y0, Y1⟩, ⟨by omega, by omega⟩, ?_, e'⟩
  rcases s with ⟨s1, s2⟩ | ⟨s1, s2⟩
  · refine Or.inr ⟨s2, ?_⟩
    rw [s1, s2, Int.mul_neg]
    omega
  · refine Or.inl ⟨s2, ?_⟩
    rw [s1, s2]
    omega
theorem InvI.bd (h : InvI P a b x y) (hP : P < 1073741824) : (i64 a ∧ i64 b ∧ i64 x ∧ i64 y) ∧ (-P ≤ x ∧ x ≤ P) := by
  obtain ⟨⟨a0, a1⟩, ⟨b0, b1⟩, X, Y, ⟨X0, X1⟩, ⟨Y0, Y1⟩, s, -⟩ := h
  unfold i64
  omega
theorem s_Re_inverse {v : Int} (hv : 0 ≤ v ∧ v ≤ P) (hP : 0 < P ∧ P < 1073741824) (hO : mOk M) : Ci G y_Re_inverse d [vi v, vi P] M (fun r M' => M' = M ∧ 0 ≤ r ∧ r ≤ P) := by
  refine k_Re_inverse hO ⟨by omega, by omega⟩ ⟨by omega, by omega⟩ ?_
  suffices HH : ∀ (t i : Nat) (a b x y : Int), 100 ≤ i + t → i ≤ 100 → InvI P a b x y → h_Re_inverse_16 G d P a b x y i M (fun r M' => M' = M ∧ 0 ≤ r ∧ r ≤ P) from
    HH 100 0 v P 1 0 (by omega) (by omega) ⟨hv, ⟨by omega, by omega⟩, 1, 0, ⟨by omega, by omega⟩, ⟨by omega, by omega⟩, Or.inl ⟨rfl, rfl⟩, by omega⟩
  have fin : ∀ {a b x y : Int}, InvI P a b x y → ∀ v7 : Int, v7 = (if (0 ≤ cmpL x 0) then x else x + P) → M = M ∧ 0 ≤ v7 ∧ v7 ≤ P := fun {a b x y} h v7 e7 => by
    have := h.bd hP.2
    have c : (0 ≤ cmpL x 0) ↔ 0 ≤ x := by
      unfold cmpL; split
      · constructor <;> intro h <;> omega
      · split <;> constructor <;> intro h <;> omega
    refine ⟨rfl, ?_⟩
    by_cases u : 0 ≤ cmpL x 0
    · rw [if_pos u] at e7
      have := c.1 u
      omega
    · rw [if_neg u] at e7
      have : ¬ 0 ≤ x := fun w => u (c.2 w)
      omega
  intro t
  induction t with
  | zero =>
    intro i a b x y h1 h2 hI
    obtain ⟨⟨b1, b2, b3, b4⟩, -⟩ := hI.bd hP.2
    exact k_Re_inverse_16 hO ⟨by omega, by omega⟩ b1 b2 b3 b4 ⟨by omega, by omega⟩ ⟨fun _ => fin hI, fun u => absurd (Or.inl (by omega)) u⟩
  | succ t ih =>
    intro i a b x y h1 h2 hI
    obtain ⟨⟨b1, b2, b3, b4⟩, -⟩ := hI.bd hP.2
    refine k_Re_inverse_16 hO ⟨by omega, by omega⟩ b1 b2 b3 b4 ⟨by omega, by omega⟩ ⟨fun _ => fin hI, fun u => ?_⟩
    have b0 : b ≠ 0 := fun w => u (Or.inr (j_c0.2 w))
    have a0 := hI.1.1
    have bb := hI.2.1.1
    rw [Int.tdiv_eq_ediv_of_nonneg a0, show ((i : Int) + 1) = ((i + 1 : Nat) : Int) by omega]
    exact ⟨b0, ih (i + 1) _ _ _ _ (by omega) (by omega) (inv_st hI (by omega))⟩
/-- the Residues' tables -/
def Rk (M : mM) (e : Nat) : Prop := mK M e = 12 ∧ (mR M e 0 = e + 1 ∧ mR M e 1 = e + 2 ∧ mR M e 2 = e + 3 ∧ mR M e 3 = e + 4 ∧ mR M e 4 = e + 5 ∧ mR M e 5 = e + 6 ∧ mR M e 6 = e + 7) ∧ (mK M (e + 1) = 30 ∧ mK M (e + 2) = 34 ∧ mK M (e + 3) = 30 ∧ mK M (e + 4) = 30 ∧ mK M (e + 5) = 30 ∧ mK M (e + 6) = 30) ∧ (mN M (e + 1) = 1640 ∧ mN M (e + 2) = 41 ∧ mN M (e + 3) = 1640 ∧ mN M (e + 4) = 40 ∧ mN M (e + 5) = 41 ∧ mN M (e + 6) = 41)
theorem Rk.fi {S : Nat → Prop} (h : Rk M e) (f : FI S M M') : Rk M' e := by
  unfold Rk at h ⊢
  rw [f.1, f.2.1, f.2.2.1]
  exact h
/-- residues in the table -/
def Wk9 (M : mM) (e : Nat) (P : Int) (N : Nat) : Prop := ∀ j, j < N → 0 ≤ mI M (e + 3) j ∧ mI M (e + 3) j < P
theorem wk_ui {j N : Nat} {v : Int} (h : Wk9 M e P N) (hv : 0 ≤ v ∧ v < P) (q : M' = mUI M (e + 3) j v) : Wk9 M' e P N := fun i hi => by
  rw [mI_ui _ i q]
  by_cases c : e + 3 = e + 3 ∧ i = j
  · rw [if_pos c]; exact hv
  · rw [if_neg c]; exact h i hi
theorem s_Re_swapRows {N p q : Nat} (hP : P < 1073741824) (h : Rk M e) (hw : Wk9 M e P N) (hN : N ≤ 1640) (hp : p + 41 ≤ N) (hq : q + 41 ≤ N) (hO : mOk M) : Cv G y_Re_swapRows d [vr e, vi p, vi q] M (fun M' => mOk M' ∧ FI (fun x => x = e + 3) M M' ∧ Wk9 M' e P N) := by
  refine k_Re_swapRows hO ⟨by omega, by omega⟩ ⟨by omega, by omega⟩ ?_
  suffices HH : ∀ (t i : Nat) (M1 : mM), 41 ≤ i + t → i ≤ 41 → mOk M1 → FI (fun x => x = e + 3) M M1 → Wk9 M1 e P N → h_Re_swapRows_2 G d e p q i M1 (fun M' => mOk M' ∧ FI (fun x => x = e + 3) M M' ∧ Wk9 M' e P N) from HH 41 0 M (by omega) (by omega) hO FI.refl hw
  intro t
  induction t with
  | zero =>
    intro i M1 h1 h2 o F w
    exact k_Re_swapRows_2 o ⟨by omega, by omega⟩ ⟨by omega, by omega⟩ ⟨by omega, by omega⟩ ⟨fun _ => ⟨o, F, w⟩, fun u => absurd (by omega) u⟩
  | succ t ih =>
    intro i M1 h1 h2 o F w
    refine k_Re_swapRows_2 o ⟨by omega, by omega⟩ ⟨by omega, by omega⟩ ⟨by omega, by omega⟩ ⟨fun _ => ⟨o, F, w⟩, fun u => ?_⟩
    have k1 := h.fi F
    have r2 := k1.2.1.2.2.1
    have n3 := k1.2.2.2.2.2.1
    have c3 := k1.2.2.1.2.2.1
    have wp := w (p + i) (by omega)
    have wq := w (q + i) (by omega)
    rw [r2, n3, show ((p : Nat) : Int) + ((i : Nat) : Int) = ((p + i : Nat) : Int) by omega, show ((q : Nat) : Int) + ((i : Nat) : Int) = ((q + i : Nat) : Int) by omega, Int.toNat_natCast, Int.toNat_natCast]
    refine ⟨k1.1, c3, ⟨by omega, by omega⟩, ⟨by omega, by omega⟩, ⟨by omega, by omega⟩, fun M8 e8 => ?_⟩
    have f8 : FI (fun x => x = e + 3) M1 M8 := by rw [e8]; exact FI.ui rfl
    rw [f8.1, f8.2.1, f8.2.2.1, r2, n3]
    refine ⟨c3, ⟨by omega, by omega⟩, fun M12 e12 => ?_⟩
    have f12 : FI (fun x => x = e + 3) M8 M12 := by rw [e12]; exact FI.ui rfl
    rw [show ((i : Int) + 1) = ((i + 1 : Nat) : Int) by omega]
    exact ih (i + 1) M12 (by omega) (by omega) (by rw [e12]; exact mOk_UI (by rw [e8]; exact mOk_UI o ⟨by omega, by omega⟩) ⟨by omega, by omega⟩) ((F.trans f8).trans f12) (wk_ui (wk_ui w wq e8) wp e12)
theorem tm_b {x : Int} (hx : 0 ≤ x) (hP : 0 < P) : Int.tmod x P = x % P ∧ 0 ≤ x % P ∧ x % P < P := ⟨Int.tmod_eq_emod_of_nonneg hx, Int.emod_nonneg _ (by omega), Int.emod_lt_of_pos _ hP⟩
theorem pr_b {x y z : Int} (hP : P < 1073741824) (hx : 0 ≤ x ∧ x ≤ P) (hy : 0 ≤ y ∧ y ≤ P) (hz : 0 ≤ z ∧ z ≤ P) : 0 ≤ z + x * y ∧ i64 (z + x * y) := by
  have h1 := Int.mul_nonneg hx.1 hy.1
  have h2 : x * y ≤ 1073741824 * y := Int.mul_le_mul_of_nonneg_right (by omega) hy.1
  unfold i64
  omega
end NBI
end
section
/-! The Residues: elimination, substitution. -/
section NBJ
variable {G : mG} {d e n m i k rows : Nat} {M M0 M' M1 M2 M3 : mM} {P a b x y X Y : Int}
/-- columns that are columns -/
def Co9 (M : mM) (e fl : Nat) : Prop := ∀ c, c < fl → 0 ≤ mI M (e + 5) c ∧ mI M (e + 5) c < 41
def S35 (e x : Nat) : Prop := x = e + 3 ∨ x = e + 5
/-- one row is cleared -/
theorem s_cb105 {k i fl N : Nat} {fa : Int} {Q : mM → Prop} (hP : 0 < P ∧ P < 1073741824) (h : Rk M e) (hk : k < rows) (hi : i < rows) (hr : rows ≤ 40) (hfl : fl ≤ 40) (eN : N = rows * 41) (hf : 0 ≤ fa ∧ fa ≤ P)
    (hQ : ∀ M', mOk M' → FI (S35 e) M M' → Wk9 M' e P N → Co9 M' e fl → h_Re_clearBelow_53 G d e k rows P fl ((i + 1 : Nat) : Int) M' Q) : ∀ (t c : Nat) (M1 : mM), fl ≤ c + t → c ≤ fl → mOk M1 → FI (S35 e) M M1 → Wk9 M1 e P N → Co9 M1 e fl → h_Re_clearBelow_105 G d e k rows P fl i fa c M1 Q := by
  intro t
  induction t with
  | zero =>
    intro c M1 h1 h2 o F w co
    rw [show ((i + 1 : Nat) : Int) = (i : Int) + 1 by omega] at hQ
    exact k_Re_clearBelow_105 o ⟨by omega, by omega⟩ ⟨by omega, by omega⟩ ⟨by omega, by omega⟩ ⟨by omega, by omega⟩ ⟨by omega, by omega⟩ ⟨by omega, by omega⟩ ⟨by omega, by omega⟩ ⟨fun _ => hQ M1 o F w co, fun u => absurd (by omega) u⟩
  | succ t ih =>
    intro c M1 h1 h2 o F w co
    refine k_Re_clearBelow_105 o ⟨by omega, by omega⟩ ⟨by omega, by omega⟩ ⟨by omega, by omega⟩ ⟨by omega, by omega⟩ ⟨by omega, by omega⟩ ⟨by omega, by omega⟩ ⟨by omega, by omega⟩ ⟨fun _ => ?_, fun u => ?_⟩
    · have := hQ M1 o F w co
      rw [show ((i + 1 : Nat) : Int) = (i : Int) + 1 by omega] at this
      exact this
    · have k1 := h.fi F
      obtain ⟨e0, ⟨-, -, r2, -, r4, -⟩, ⟨-, -, k3, -, k5, -⟩, ⟨-, -, n3, -, n5, -⟩⟩ := id k1
      obtain ⟨j, ej⟩ : ∃ j : Nat, mI M1 (e + 5) c = ((j : Nat) : Int) := ⟨(mI M1 (e + 5) c).toNat, by have := co c (by omega); omega⟩
      have jb := co c (by omega)
      rw [ej] at jb
      have w1 := w (i * 41 + j) (by omega)
      have w2 := w (k * 41 + j) (by omega)
      obtain ⟨p1, p2⟩ := pr_b hP.2 hf ⟨w2.1, by omega⟩ ⟨w1.1, by omega⟩
      obtain ⟨t1, t2, t3⟩ := tm_b p1 hP.1
      rw [r2, r4, n3, n5, Int.toNat_natCast, ej, show ((i : Nat) : Int) * 41 + ((j : Nat) : Int) = ((i * 41 + j : Nat) : Int) by omega, show ((k : Nat) : Int) * 41 + ((j : Nat) : Int) = ((k * 41 + j : Nat) : Int) by omega, Int.toNat_natCast, Int.toNat_natCast, t1]
      refine ⟨e0, k5, ⟨by omega, by omega⟩, k3, ⟨by omega, by omega⟩, ⟨by omega, by omega⟩, p2, by omega, ⟨by omega, by omega⟩, ⟨by omega, by omega⟩, fun M64 e64 => ?_⟩
      have f64 : FI (fun x => x = e + 3) M1 M64 := by rw [e64]; exact FI.ui rfl
      rw [show ((c : Int) + 1) = ((c + 1 : Nat) : Int) by omega]
      exact ih (c + 1) M64 (by omega) (by omega) (by rw [e64]; exact mOk_UI o ⟨by omega, by omega⟩) (F.trans (f64.mono (fun _ u => Or.inl u))) (wk_ui w ⟨t2, t3⟩ e64) (fun c' hc => by rw [f64.2.2.2.2.2.2 (e + 5) (show ¬ e + 5 = e + 3 by omega)]; exact co c' hc)
/-- the rows below -/
theorem s_cb53 {k fl N : Nat} (hP : 0 < P ∧ P < 1073741824) (h : Rk M e) (hk : k < rows) (hr : rows ≤ 40) (hfl : fl ≤ 40) (eN : N = rows * 41) (hv : 0 ≤ mI M (e + 4) k ∧ mI M (e + 4) k ≤ P) : ∀ (t i : Nat) (M1 : mM), rows ≤ i + t → i ≤ rows → mOk M1 → FI (S35 e) M M1 → Wk9 M1 e P N → Co9 M1 e fl → h_Re_clearBelow_53 G d e k rows P fl i M1 (fun M' => mOk M' ∧ FI (S35 e) M M' ∧ Wk9 M' e P N) := by
  intro t
  induction t with
  | zero =>
    intro i M1 h1 h2 o F w co
    exact k_Re_clearBelow_53 o ⟨by omega, by omega⟩ ⟨by omega, by omega⟩ ⟨by omega, by omega⟩ ⟨by omega, by omega⟩ ⟨by omega, by omega⟩ ⟨fun _ => ⟨o, F, w⟩, fun u => absurd (by omega) u⟩
  | succ t ih =>
    intro i M1 h1 h2 o F w co
    refine k_Re_clearBelow_53 o ⟨by omega, by omega⟩ ⟨by omega, by omega⟩ ⟨by omega, by omega⟩ ⟨by omega, by omega⟩ ⟨by omega, by omega⟩ ⟨fun _ => ⟨o, F, w⟩, fun u => ?_⟩
    have k1 := h.fi F
    obtain ⟨e0, ⟨-, -, r2, r3, -⟩, ⟨-, -, k3, k4, -⟩, ⟨-, -, n3, n4, -⟩⟩ := id k1
    have i4 : mI M1 (e + 4) = mI M (e + 4) := F.2.2.2.2.2.2 (e + 4) (fun u => by unfold S35 at u; omega)
    have w1 := w (i * 41 + k) (by omega)
    obtain ⟨p1, p2⟩ := pr_b hP.2 ⟨w1.1, Int.le_of_lt w1.2⟩ hv ⟨Int.le_refl 0, by omega⟩
    rw [Int.zero_add] at p1 p2
    obtain ⟨t1, t2, t3⟩ := tm_b p1 hP.1
    rw [r2, r3, n3, n4, i4, show ((i : Nat) : Int) * 41 + ((k : Nat) : Int) = ((i * 41 + k : Nat) : Int) by omega, Int.toNat_natCast, Int.toNat_natCast, t1, show ((i : Int) + 1) = ((i + 1 : Nat) : Int) by omega]
    refine ⟨e0, k3, ⟨by omega, by omega⟩, fun _ => ih (i + 1) M1 (by omega) (by omega) o F w co, fun _ => ⟨k4, ⟨by omega, by omega⟩, p2, by omega, ?_⟩⟩
    exact s_cb105 (M := M1) hP k1 hk (by omega) hr hfl eN ⟨by omega, by omega⟩ (fun M' o' F' w' co' => ih (i + 1) M' (by omega) (by omega) o' (F.trans F') w' co') fl 0 M1 (by omega) (by omega) o FI.refl w co
theorem s_Re_clearBelow {k N : Nat} (hP : 0 < P ∧ P < 1073741824) (h : Rk M e) (hk : k < rows) (hr : rows ≤ 40) (eN : N = rows * 41) (hv : 0 ≤ mI M (e + 4) k ∧ mI M (e + 4) k ≤ P) (hw : Wk9 M e P N) (hO : mOk M) : Cv G y_Re_clearBelow d [vr e, vi k, vi rows, vi P] M (fun M' => mOk M' ∧ FI (S35 e) M M' ∧ Wk9 M' e P N) := by
  refine k_Re_clearBelow hO ⟨by omega, by omega⟩ ⟨by omega, by omega⟩ ⟨by omega, by omega⟩ ?_
  suffices HH : ∀ (t j fl : Nat) (M1 : mM), 41 ≤ j + t → k + 1 ≤ j → j ≤ 41 → fl ≤ j - (k + 1) → mOk M1 → FI (S35 e) M M1 → Wk9 M1 e P N → Co9 M1 e fl → h_Re_clearBelow_8 G d e k rows P fl j M1 (fun M' => mOk M' ∧ FI (S35 e) M M' ∧ Wk9 M' e P N) from by
    rw [show ((k : Int) + 1) = ((k + 1 : Nat) : Int) by omega]
    exact HH 41 (k + 1) 0 M (by omega) (by omega) (by omega) (by omega) hO FI.refl hw (fun c hc => absurd hc (by omega))
  intro t
  induction t with
  | zero =>
    intro j fl M1 h1 h2 h3 h4 o F w co
    refine k_Re_clearBelow_8 o ⟨by omega, by omega⟩ ⟨by omega, by omega⟩ ⟨by omega, by omega⟩ ⟨by omega, by omega⟩ ⟨by omega, by omega⟩ ⟨fun _ => ?_, fun u => absurd (by omega) u⟩
    rw [show ((k : Int) + 1) = ((k + 1 : Nat) : Int) by omega]
    exact s_cb53 hP h hk hr (by omega) eN hv rows (k + 1) M1 (by omega) (by omega) o F w co
  | succ t ih =>
    intro j fl M1 h1 h2 h3 h4 o F w co
    refine k_Re_clearBelow_8 o ⟨by omega, by omega⟩ ⟨by omega, by omega⟩ ⟨by omega, by omega⟩ ⟨by omega, by omega⟩ ⟨by omega, by omega⟩ ⟨fun u => ?_, fun u => ?_⟩
    · rw [show ((k : Int) + 1) = ((k + 1 : Nat) : Int) by omega]
      exact s_cb53 hP h hk hr (by omega) eN hv rows (k + 1) M1 (by omega) (by omega) o F w co
    · have k1 := h.fi F
      obtain ⟨e0, ⟨-, -, r2, -, r4, -⟩, ⟨-, -, k3, -, k5, -⟩, ⟨-, -, n3, -, n5, -⟩⟩ := id k1
      rw [r2, r4, n3, n5, show ((k : Nat) : Int) * 41 + ((j : Nat) : Int) = ((k * 41 + j : Nat) : Int) by omega, Int.toNat_natCast, Int.toNat_natCast, show ((j : Int) + 1) = ((j + 1 : Nat) : Int) by omega]
      refine ⟨e0, k3, ⟨by omega, by omega⟩, fun _ => ⟨k5, by omega, by omega⟩, fun v15 e15 M16 e16 => ?_⟩
      by_cases c : mI M1 (e + 3) (k * 41 + j) = 0
      · rw [if_pos c] at e15 e16
        rw [e15, e16]
        exact ⟨o, ih (j + 1) fl M1 (by omega) (by omega) (by omega) (by omega) o F w co⟩
      · rw [if_neg c] at e15 e16
        have f16 : FI (fun x => x = e + 5) M1 M16 := by rw [e16]; exact FI.ui rfl
        have o16 : mOk M16 := by rw [e16]; exact mOk_UI o ⟨by omega, by omega⟩
        rw [e15, show ((fl : Int) + 1) = ((fl + 1 : Nat) : Int) by omega]
        refine ⟨o16, ih (j + 1) (fl + 1) M16 (by omega) (by omega) (by omega) (by omega) o16 (F.trans (f16.mono (fun _ u => Or.inr u))) (fun i hi => by rw [f16.2.2.2.2.2.2 (e + 3) (show ¬ e + 3 = e + 5 by omega)]; exact w i hi) (fun c' hc => ?_)⟩
        rw [mI_ui _ c' e16]
        by_cases c2 : c' = fl
        · rw [if_pos ⟨rfl, c2⟩]; omega
        · rw [if_neg (fun u => c2 u.2)]; exact co c' (by omega)
end NBJ
end
section
/-! The Residues: elimination and substitution, the whole. -/
section NBK
variable {G : mG} {d e n m i k rows : Nat} {M M0 M' M1 M2 M3 : mM} {P a b x y X Y : Int}
def S36 (e x : Nat) : Prop := x = e + 3 ∨ x = e + 4 ∨ x = e + 5 ∨ x = e + 6
/-- entries of equations -/
def Ent9 (M : mM) (e N : Nat) : Prop := ∀ j, j < N → -1000000000 ≤ mI M (e + 1) j ∧ mI M (e + 1) j ≤ 1000000000
def Iv9 (M : mM) (e : Nat) (P : Int) (k : Nat) : Prop := ∀ j, j < k → 0 ≤ mI M (e + 4) j ∧ mI M (e + 4) j ≤ P
def elQ (M : mM) (e rows : Nat) (P : Int) (x : Int) (M' : mM) : Prop := mOk M' ∧ FI (S36 e) M M' ∧ (x = 0 ∨ x = 1) ∧ (x ≠ 0 → Wk9 M' e P (rows * 41) ∧ Iv9 M' e P rows ∧ 0 ≤ mI M' (e + 6) rows ∧ mI M' (e + 6) rows ≤ P)
def elI (M : mM) (e rows : Nat) (P : Int) (k : Nat) (M1 : mM) : Prop := mOk M1 ∧ FI (S36 e) M M1 ∧ Wk9 M1 e P (rows * 41) ∧ Iv9 M1 e P k
theorem s_el125 {dt : Int} (hP : 1000000000 < P ∧ P < 1073741824) (h : Rk M e) (hr : rows ≤ 40) (hk : k < rows) (hd : 0 ≤ dt ∧ dt ≤ P) (hI : elI M e rows P k M1)
    (hQ : ∀ M' dt', elI M e rows P (k + 1) M' → 0 ≤ dt' ∧ dt' ≤ P → h_Re_eliminate_53 G d e rows P dt' ((k + 1 : Nat) : Int) M' (elQ M e rows P)) : h_Re_eliminate_125 G d e rows P dt k M1 (elQ M e rows P) := by
  obtain ⟨o, F, w, iv⟩ := hI
  have k1 := h.fi F
  obtain ⟨e0, ⟨-, -, r2, r3, -⟩, ⟨-, -, k3, k4, -⟩, ⟨-, -, n3, n4, -⟩⟩ := id k1
  have w1 := w (k * 41 + k) (by omega)
  obtain ⟨p1, p2⟩ := pr_b hP.2 hd ⟨w1.1, Int.le_of_lt w1.2⟩ ⟨Int.le_refl 0, by omega⟩
  rw [Int.zero_add] at p1 p2
  obtain ⟨t1, t2, t3⟩ := tm_b p1 (show 0 < P by omega)
  refine k_Re_eliminate_125 o ⟨by omega, by omega⟩ ⟨by omega, by omega⟩ ⟨by omega, by omega⟩ ⟨by omega, by omega⟩ ?_
  rw [r2, r3, n3, show ((k : Nat) : Int) * 41 + ((k : Nat) : Int) = ((k * 41 + k : Nat) : Int) by omega, Int.toNat_natCast, Int.toNat_natCast, t1, show ((k : Int) + 1) = ((k + 1 : Nat) : Int) by omega]
  refine ⟨e0, k3, ⟨by omega, by omega⟩, p2, by omega, ⟨by omega, by omega⟩, (s_Re_inverse (d := d) ⟨w1.1, Int.le_of_lt w1.2⟩ ⟨by omega, hP.2⟩ o).mono (fun x64 M63 q => ?_)⟩
  obtain ⟨e63, x0, x1⟩ := q
  rw [e63, n4]
  refine ⟨⟨by omega, by omega⟩, o, k4, ⟨by omega, by omega⟩, fun M68 e68 => ?_⟩
  have f68 : FI (fun x => x = e + 4) M1 M68 := by rw [e68]; exact FI.ui rfl
  have o68 : mOk M68 := by rw [e68]; exact mOk_UI o ⟨by omega, by omega⟩
  have k68 := k1.fi f68
  have w68 : Wk9 M68 e P (rows * 41) := fun j hj => by rw [f68.2.2.2.2.2.2 (e + 3) (show ¬ e + 3 = e + 4 by omega)]; exact w j hj
  have v68 : mI M68 (e + 4) k = x64 := by rw [mI_ui _ k e68, if_pos ⟨rfl, rfl⟩]
  have iv68 : Iv9 M68 e P (k + 1) := fun j hj => by
    rw [mI_ui _ j e68]
    by_cases c : j = k
    · rw [if_pos ⟨rfl, c⟩]; exact ⟨x0, x1⟩
    · rw [if_neg (fun u => c u.2)]; exact iv j (by omega)
  refine ⟨k68.1, (s_Re_clearBelow (d := d) ⟨by omega, hP.2⟩ k68 hk hr rfl (by rw [v68]; exact ⟨x0, x1⟩) w68 o68).mono (fun M71 q => ?_)⟩
  obtain ⟨o71, F71, w71⟩ := q
  refine ⟨o71, hQ M71 _ ⟨o71, (F.trans (f68.mono (fun _ u => Or.inr (Or.inl u)))).trans (F71.mono (fun _ u => u.elim Or.inl (fun u => Or.inr (Or.inr (Or.inl u))))), w71, fun j hj => ?_⟩ ⟨t2, Int.le_of_lt t3⟩⟩
  rw [F71.2.2.2.2.2.2 (e + 4) (fun u => by unfold S35 at u; omega)]
  exact iv68 j hj
theorem s_el63 {dt : Int} (hP : 1000000000 < P ∧ P < 1073741824) (h : Rk M e) (hr : rows ≤ 40) (hk : k < rows) (hd : 0 ≤ dt ∧ dt ≤ P) (hI : elI M e rows P k M1)
    (hQ : ∀ M' dt', elI M e rows P (k + 1) M' → 0 ≤ dt' ∧ dt' ≤ P → h_Re_eliminate_53 G (d + 1) e rows P dt' ((k + 1 : Nat) : Int) M' (elQ M e rows P)) : ∀ (t p : Nat), rows ≤ p + t → k ≤ p → p ≤ rows → h_Re_eliminate_63 G (d + 1) e rows P dt k p M1 (elQ M e rows P) := by
  obtain ⟨o, F, w, iv⟩ := id hI
  have k1 := h.fi F
  obtain ⟨e0, ⟨-, -, r2, -⟩, ⟨-, -, k3, -⟩, ⟨-, -, n3, -⟩⟩ := id k1
  intro t
  induction t with
  | zero =>
    intro p h1 h2 h3
    have ep : p = rows := by omega
    subst ep
    exact k_Re_eliminate_63 o ⟨by omega, by omega⟩ ⟨by omega, by omega⟩ ⟨by omega, by omega⟩ ⟨by omega, by omega⟩ ⟨by omega, by omega⟩ ⟨fun u => absurd (Int.le_refl _) u, fun _ => ⟨fun _ => ⟨o, F, Or.inl rfl, fun u => absurd rfl u⟩, fun u => absurd rfl u⟩, fun u => absurd (Or.inl (Int.le_refl _)) u⟩
  | succ t ih =>
    intro p h1 h2 h3
    refine k_Re_eliminate_63 o ⟨by omega, by omega⟩ ⟨by omega, by omega⟩ ⟨by omega, by omega⟩ ⟨by omega, by omega⟩ ⟨by omega, by omega⟩ ?_
    rw [r2, n3, show ((p : Nat) : Int) * 41 + ((k : Nat) : Int) = ((p * 41 + k : Nat) : Int) by omega, Int.toNat_natCast, show ((p : Int) + 1) = ((p + 1 : Nat) : Int) by omega]
    refine ⟨fun u => ⟨e0, k3, ⟨by omega, by omega⟩⟩, fun _ => ⟨fun _ => ⟨o, F, Or.inl rfl, fun u => absurd rfl u⟩, fun ne => ⟨fun _ => s_el125 hP h hr hk hd hI hQ, fun u => ⟨e0, ?_⟩⟩⟩, fun u => ?_⟩
    · rw [show ((p : Nat) : Int) * 41 = ((p * 41 : Nat) : Int) by omega, show ((k : Nat) : Int) * 41 = ((k * 41 : Nat) : Int) by omega]
      refine (s_Re_swapRows (d := d + 1) (N := rows * 41) hP.2 k1 w (by omega) (by omega) (by omega) o).mono (fun M50 q => ?_)
      obtain ⟨o50, F50, w50⟩ := q
      refine ⟨o50, s_el125 hP h hr hk ⟨by omega, by omega⟩ ⟨o50, F.trans (F50.mono (fun _ u => Or.inl u)), w50, fun j hj => ?_⟩ hQ⟩
      rw [F50.2.2.2.2.2.2 (e + 4) (show ¬ e + 4 = e + 3 by omega)]
      exact iv j hj
    · refine ih (p + 1) (by omega) (by omega) ?_
      by_cases c : (rows : Int) ≤ p
      · exact absurd (Or.inl c) u
      · omega
theorem s_el53 (hP : 1000000000 < P ∧ P < 1073741824) (h : Rk M e) (hr : rows ≤ 40) : ∀ (t k : Nat) (dt : Int) (M1 : mM), rows ≤ k + t → k ≤ rows → 0 ≤ dt ∧ dt ≤ P → elI M e rows P k M1 → h_Re_eliminate_53 G (d + 1) e rows P dt k M1 (elQ M e rows P) := by
  have fin : ∀ (k : Nat) (dt : Int) (M1 : mM), k = rows → 0 ≤ dt ∧ dt ≤ P → elI M e rows P k M1 → mK M1 e = 12 ∧ mK M1 (mR M1 e 5) = 30 ∧ ((0 : Int) ≤ rows ∧ (rows : Int) < (mN M1 (mR M1 e 5) : Int)) ∧ i32 dt ∧ ∀ M35, M35 = mUI M1 (mR M1 e 5) (Int.toNat rows) dt → elQ M e rows P 1 M35 := by
    intro k dt M1 ek hd hI
    obtain ⟨o, F, w, iv⟩ := hI
    have k1 := h.fi F
    obtain ⟨e0, ⟨-, -, -, -, -, r5, -⟩, ⟨-, -, -, -, -, k6⟩, ⟨-, -, -, -, -, n6⟩⟩ := id k1
    rw [r5, n6, Int.toNat_natCast]
    refine ⟨e0, k6, ⟨by omega, by omega⟩, ⟨by omega, by omega⟩, fun M35 e35 => ?_⟩
    have f35 : FI (fun x => x = e + 6) M1 M35 := by rw [e35]; exact FI.ui rfl
    refine ⟨by rw [e35]; exact mOk_UI o ⟨by omega, by omega⟩, F.trans (f35.mono (fun _ u => Or.inr (Or.inr (Or.inr u)))), Or.inr rfl, fun _ => ⟨fun j hj => by rw [f35.2.2.2.2.2.2 (e + 3) (show ¬ e + 3 = e + 6 by omega)]; exact w j hj, fun j hj => by rw [f35.2.2.2.2.2.2 (e + 4) (show ¬ e + 4 = e + 6 by omega)]; exact iv j (by omega), by rw [mI_ui _ rows e35, if_pos ⟨rfl, rfl⟩]; exact hd⟩⟩
  intro t
  induction t with
  | zero =>
    intro k dt M1 h1 h2 hd hI
    exact k_Re_eliminate_53 hI.1 ⟨by omega, by omega⟩ ⟨by omega, by omega⟩ ⟨by omega, by omega⟩ ⟨by omega, by omega⟩ ⟨fun _ => fin k dt M1 (by omega) hd hI, fun u => absurd (by omega) u⟩
  | succ t ih =>
    intro k dt M1 h1 h2 hd hI
    refine k_Re_eliminate_53 hI.1 ⟨by omega, by omega⟩ ⟨by omega, by omega⟩ ⟨by omega, by omega⟩ ⟨by omega, by omega⟩ ⟨fun u => fin k dt M1 (by omega) hd hI, fun u => ?_⟩
    exact s_el63 hP h hr (by omega) hd hI (fun M' dt' hI' hd' => ih (k + 1) dt' M' (by omega) (by omega) hd' hI') rows k (by omega) (Nat.le_refl _) (by omega)
theorem s_Re_eliminate (hP : 1000000000 < P ∧ P < 1073741824) (h : Rk M e) (hr : rows ≤ 40) (he : Ent9 M e (rows * 41)) (hO : mOk M) : Ci G y_Re_eliminate (d + 2) [vr e, vi rows, vi P] M (elQ M e rows P) := by
  refine k_Re_eliminate hO ⟨by omega, by omega⟩ ⟨by omega, by omega⟩ ?_
  suffices HH : ∀ (t i : Nat) (M1 : mM), rows * 41 ≤ i + t → i ≤ rows * 41 → mOk M1 → FI (S36 e) M M1 → Wk9 M1 e P i → h_Re_eliminate_2 G (d + 1) e rows P i M1 (elQ M e rows P) from HH (rows * 41) 0 M (by omega) (by omega) hO FI.refl (fun j hj => absurd hj (by omega))
  intro t
  induction t with
  | zero =>
    intro i M1 h1 h2 o F w
    have ei : i = rows * 41 := by omega
    subst ei
    refine k_Re_eliminate_2 o ⟨by omega, by omega⟩ ⟨by omega, by omega⟩ ⟨by omega, by omega⟩ ⟨⟨by omega, by omega⟩, fun _ => ?_, fun u => absurd (by omega) u⟩
    exact s_el53 hP h hr rows 0 1 M1 (by omega) (by omega) ⟨by omega, by omega⟩ ⟨o, F, w, fun j hj => absurd hj (by omega)⟩
  | succ t ih =>
    intro i M1 h1 h2 o F w
    by_cases ei : i = rows * 41
    · exact ih i M1 (by omega) h2 o F w
    have k1 := h.fi F
    obtain ⟨e0, ⟨r0, -, r2, -⟩, ⟨k0, -, k3, -⟩, ⟨n1, -, n3, -⟩⟩ := id k1
    have i1 : mI M1 (e + 1) = mI M (e + 1) := F.2.2.2.2.2.2 (e + 1) (fun u => by unfold S36 at u; omega)
    have en := he i (by omega)
    refine k_Re_eliminate_2 o ⟨by omega, by omega⟩ ⟨by omega, by omega⟩ ⟨by omega, by omega⟩ ?_
    rw [r0, r2, n1, n3, i1, Int.toNat_natCast, show ((i : Int) + 1) = ((i + 1 : Nat) : Int) by omega]
    refine ⟨⟨by omega, by omega⟩, fun u => absurd u (by omega), fun _ => ⟨e0, k0, ⟨by omega, by omega⟩, ⟨fun _ => ⟨by omega, by omega⟩, fun _ => ⟨by omega, by omega⟩⟩, fun v14 e14 => ?_⟩⟩
    have vb : 0 ≤ v14 ∧ v14 < P := by
      by_cases c : 0 ≤ mI M (e + 1) i
      · rw [if_pos c] at e14; omega
      · rw [if_neg c] at e14; omega
    refine ⟨k3, ⟨by omega, by omega⟩, ⟨by omega, by omega⟩, fun M20 e20 => ?_⟩
    have f20 : FI (fun x => x = e + 3) M1 M20 := by rw [e20]; exact FI.ui rfl
    refine ih (i + 1) M20 (by omega) (by omega) (by rw [e20]; exact mOk_UI o ⟨by omega, by omega⟩) (F.trans (f20.mono (fun _ u => Or.inl u))) (fun j hj => ?_)
    rw [mI_ui _ j e20]
    by_cases c : j = i
    · rw [if_pos ⟨rfl, c⟩]; exact vb
    · rw [if_neg (fun u => c u.2)]; exact w j (by omega)
end NBK
end
section
/-! The Residues: substitution, remainders put together, systems settled. -/
section NBL
variable {G : mG} {d e z n m i k rows B : Nat} {M M0 M' M1 M2 M3 : mM} {P a b x y X Y : Int} {L : List Nat} {W : Nat → Nat}
/-- residues from i on -/
def Rd9 (M : mM) (e : Nat) (P : Int) (i n : Nat) : Prop := ∀ j, i ≤ j → j ≤ n → 0 ≤ mI M (e + 6) j ∧ mI M (e + 6) j ≤ P
theorem s_su111 (hP : 1000000000 < P ∧ P < 1073741824) (h : Rk M e) (hr : rows ≤ 40) : ∀ (t i : Nat) (M1 : mM), rows ≤ i + t → i ≤ rows → mOk M1 → FI (fun x => x = e + 6) M M1 → Rd9 M1 e P 0 rows → h_Re_substitute_111 G d e rows P i M1 (fun M' => mOk M' ∧ FI (fun x => x = e + 6) M M' ∧ Rd9 M' e P 0 rows) := by
  intro t
  induction t with
  | zero =>
    intro i M1 h1 h2 o F r
    exact k_Re_substitute_111 o ⟨by omega, by omega⟩ ⟨by omega, by omega⟩ ⟨by omega, by omega⟩ ⟨fun _ => ⟨o, F, r⟩, fun u => absurd (by omega) u⟩
  | succ t ih =>
    intro i M1 h1 h2 o F r
    refine k_Re_substitute_111 o ⟨by omega, by omega⟩ ⟨by omega, by omega⟩ ⟨by omega, by omega⟩ ⟨fun _ => ⟨o, F, r⟩, fun u => ?_⟩
    obtain ⟨e0, ⟨-, -, -, -, -, r5, -⟩, ⟨-, -, -, -, -, k6⟩, ⟨-, -, -, -, -, n6⟩⟩ := h.fi F
    obtain ⟨p1, p2⟩ := pr_b hP.2 (r i (by omega) (by omega)) (r rows (by omega) (by omega)) ⟨Int.le_refl 0, by omega⟩
    rw [Int.zero_add] at p1 p2
    obtain ⟨t1, t2, t3⟩ := tm_b p1 (show 0 < P by omega)
    rw [r5, n6, Int.toNat_natCast, Int.toNat_natCast, t1, show ((i : Int) + 1) = ((i + 1 : Nat) : Int) by omega]
    refine ⟨e0, k6, ⟨by omega, by omega⟩, ⟨by omega, by omega⟩, p2, by omega, ⟨by omega, by omega⟩, ⟨by omega, by omega⟩, fun M64 e64 => ?_⟩
    have f64 : FI (fun x => x = e + 6) M1 M64 := by rw [e64]; exact FI.ui rfl
    refine ih (i + 1) M64 (by omega) (by omega) (by rw [e64]; exact mOk_UI o ⟨by omega, by omega⟩) (F.trans f64) (fun j h0 hj => ?_)
    rw [mI_ui _ j e64]
    by_cases c : e + 6 = e + 6 ∧ j = i
    · rw [if_pos c]; exact ⟨t2, Int.le_of_lt t3⟩
    · rw [if_neg c]; exact r j h0 hj
theorem s_su28 {Q : mM → Prop} (hP : 1000000000 < P ∧ P < 1073741824) (h : Rk M1 e) (hr : rows ≤ 40) (hi : i < rows) (o : mOk M1) (w : Wk9 M1 e P (rows * 41)) (iv : Iv9 M1 e P rows) (r : Rd9 M1 e P (i + 1) rows)
    (hQ : ∀ M30 v, 0 ≤ v ∧ v ≤ P → M30 = mUI M1 (e + 6) i v → h_Re_substitute_4 G d e rows P ((i : Int) + (-1)) M30 Q) : ∀ (t j : Nat) (s : Int), rows ≤ j + t → i + 1 ≤ j → j ≤ rows → 0 ≤ s ∧ s ≤ P → h_Re_substitute_28 G d e rows P i s j M1 Q := by
  obtain ⟨e0, ⟨-, -, r2, r3, -, r5, -⟩, ⟨-, -, k3, k4, -, k6⟩, ⟨-, -, n3, n4, -, n6⟩⟩ := id h
  have fin : ∀ (s : Int), 0 ≤ s ∧ s ≤ P → mK M1 e = 12 ∧ mK M1 (mR M1 e 3) = 30 ∧ ((0 : Int) ≤ i ∧ (i : Int) < (mN M1 (mR M1 e 3) : Int)) ∧ i64 (s * (mI M1 (mR M1 e 3) (Int.toNat i))) ∧ P ≠ 0 ∧ mK M1 (mR M1 e 5) = 30 ∧ ((0 : Int) ≤ i ∧ (i : Int) < (mN M1 (mR M1 e 5) : Int)) ∧ i32 (Int.tmod (s * (mI M1 (mR M1 e 3) (Int.toNat i))) P) ∧ ∀ M30, M30 = mUI M1 (mR M1 e 5) (Int.toNat i) (Int.tmod (s * (mI M1 (mR M1 e 3) (Int.toNat i))) P) → h_Re_substitute_4 G d e rows P ((i : Int) + (-1)) M30 Q := by
    intro s hs
    obtain ⟨p1, p2⟩ := pr_b hP.2 hs (iv i hi) ⟨Int.le_refl 0, by omega⟩
    rw [Int.zero_add] at p1 p2
    obtain ⟨t1, t2, t3⟩ := tm_b p1 (show 0 < P by omega)
    rw [r3, r5, n4, n6, Int.toNat_natCast, t1]
    exact ⟨e0, k4, ⟨by omega, by omega⟩, p2, by omega, k6, ⟨by omega, by omega⟩, ⟨by omega, by omega⟩, fun M30 e30 => hQ M30 _ ⟨t2, Int.le_of_lt t3⟩ e30⟩
  intro t
  induction t with
  | zero =>
    intro j s h1 h2 h3 hs
    exact k_Re_substitute_28 o ⟨by omega, by omega⟩ ⟨by omega, by omega⟩ ⟨by omega, by omega⟩ ⟨by omega, by omega⟩ ⟨by omega, by omega⟩ ⟨fun _ => fin s hs, fun u => absurd (by omega) u⟩
  | succ t ih =>
    intro j s h1 h2 h3 hs
    refine k_Re_substitute_28 o ⟨by omega, by omega⟩ ⟨by omega, by omega⟩ ⟨by omega, by omega⟩ ⟨by omega, by omega⟩ ⟨by omega, by omega⟩ ⟨fun _ => fin s hs, fun u => ?_⟩
    have w1 := w (i * 41 + j) (by omega)
    have rj := r j (by omega) (by omega)
    obtain ⟨p1, p2⟩ := pr_b hP.2 ⟨w1.1, Int.le_of_lt w1.2⟩ (show 0 ≤ P - mI M1 (e + 6) j ∧ P - mI M1 (e + 6) j ≤ P by omega) hs
    obtain ⟨t1, t2, t3⟩ := tm_b p1 (show 0 < P by omega)
    rw [r2, r5, n3, n6, show ((i : Nat) : Int) * 41 + ((j : Nat) : Int) = ((i * 41 + j : Nat) : Int) by omega, Int.toNat_natCast, Int.toNat_natCast, t1, show ((j : Int) + 1) = ((j + 1 : Nat) : Int) by omega]
    refine ⟨e0, k3, ⟨by omega, by omega⟩, fun _ => ⟨k6, ⟨by omega, by omega⟩, ⟨by omega, by omega⟩, p2, by omega⟩, fun v41 e41 => ih (j + 1) v41 (by omega) (by omega) (by omega) ?_⟩
    by_cases c : cmpL (mI M1 (e + 3) (i * 41 + j)) 0 = 0
    · rw [if_pos c] at e41; rw [e41]; exact hs
    · rw [if_neg c] at e41; rw [e41]; exact ⟨t2, Int.le_of_lt t3⟩
theorem s_Re_substitute (hP : 1000000000 < P ∧ P < 1073741824) (h : Rk M e) (hr : rows ≤ 40) (hw : Wk9 M e P (rows * 41)) (hiv : Iv9 M e P rows) (hd : 0 ≤ mI M (e + 6) rows ∧ mI M (e + 6) rows ≤ P) (hO : mOk M) : Cv G y_Re_substitute d [vr e, vi rows, vi P] M (fun M' => mOk M' ∧ FI (fun x => x = e + 6) M M' ∧ Rd9 M' e P 0 rows) := by
  refine k_Re_substitute hO ⟨by omega, by omega⟩ ⟨by omega, by omega⟩ ?_
  suffices HH : ∀ (i : Nat) (M1 : mM), i ≤ rows → mOk M1 → FI (fun x => x = e + 6) M M1 → Rd9 M1 e P i rows → h_Re_substitute_4 G d e rows P ((i : Int) - 1) M1 (fun M' => mOk M' ∧ FI (fun x => x = e + 6) M M' ∧ Rd9 M' e P 0 rows) from HH rows M (Nat.le_refl _) hO FI.refl (fun j h1 h2 => by rw [show j = rows by omega]; exact hd)
  intro i
  induction i with
  | zero =>
    intro M1 h2 o F r
    exact k_Re_substitute_4 o ⟨by omega, by omega⟩ ⟨by omega, by omega⟩ ⟨by omega, by omega⟩ ⟨fun _ => s_su111 hP h hr rows 0 M1 (by omega) (by omega) o F r, fun u => absurd (by omega) u⟩
  | succ i ih =>
    intro M1 h2 o F r
    have k1 := h.fi F
    obtain ⟨e0, ⟨-, -, r2, -⟩, ⟨-, -, k3, -⟩, ⟨-, -, n3, -⟩⟩ := id k1
    have w1 : Wk9 M1 e P (rows * 41) := fun j hj => by rw [F.2.2.2.2.2.2 (e + 3) (show ¬ e + 3 = e + 6 by omega)]; exact hw j hj
    have iv1 : Iv9 M1 e P rows := fun j hj => by rw [F.2.2.2.2.2.2 (e + 4) (show ¬ e + 4 = e + 6 by omega)]; exact hiv j hj
    have wi := w1 (i * 41 + 40) (by omega)
    refine k_Re_substitute_4 o ⟨by omega, by omega⟩ ⟨by omega, by omega⟩ ⟨by omega, by omega⟩ ⟨fun u => absurd u (by omega), fun _ => ?_⟩
    rw [show ((i + 1 : Nat) : Int) - 1 = ((i : Nat) : Int) by omega, r2, n3, show ((i : Nat) : Int) * 41 + 40 = ((i * 41 + 40 : Nat) : Int) by omega, Int.toNat_natCast, show ((i : Int) + 1) = ((i + 1 : Nat) : Int) by omega]
    refine ⟨e0, k3, ⟨by omega, by omega⟩, s_su28 hP k1 hr (by omega) o w1 iv1 r (fun M30 v hv e30 => ?_) rows (i + 1) _ (by omega) (Nat.le_refl _) (by omega) ⟨wi.1, Int.le_of_lt wi.2⟩⟩
    rw [show ((i : Nat) : Int) + (-1) = ((i : Nat) : Int) - 1 by omega]
    refine ih M30 (by omega) (by rw [e30]; exact mOk_UI o ⟨by omega, by omega⟩) (F.trans (by rw [e30]; exact FI.ui rfl)) (fun j h1 h3 => ?_)
    rw [mI_ui _ j e30]
    by_cases c : j = i
    · rw [if_pos ⟨rfl, c⟩]; exact hv
    · rw [if_neg (fun u => c u.2)]; exact r j (by omega) h3
/-- the Residues' places -/
def RsK (L : List Nat) (M : mM) (e : Nat) : Prop := Rk M e ∧ (∀ i, i ≤ 6 → Oc L M (e + i)) ∧ (∀ i, i < 41 → mR M (e + 2) i = e + 9 + 2 * i ∧ e + 9 + 2 * i ∈ L) ∧ e + 7 ∈ L
/-- the numbers of the Residues -/
def Trs (e x : Nat) : Prop := x = e + 7 ∨ ∃ i, i < 41 ∧ x = e + 9 + 2 * i
theorem RsK.tl (h : RsK L M e) : ∀ t, Trs e t → t ∈ L := fun t ht => by
  rcases ht with u | ⟨i, hi, u⟩
  · rw [u]; exact h.2.2.2
  · rw [u]; exact (h.2.2.1 i hi).2
theorem RsK.kd (h : RsK L M e) (hi : i ≤ 6) : mK M (e + i) ≠ 9 ∧ mK M (e + i) ≠ 11 := by
  obtain ⟨⟨k0, -, ⟨k1, k2, k3, k4, k5, k6⟩, -⟩, -⟩ := h
  rcases (show i = 0 ∨ i = 1 ∨ i = 2 ∨ i = 3 ∨ i = 4 ∨ i = 5 ∨ i = 6 by omega) with u | u | u | u | u | u | u <;> rw [u]
  · rw [Nat.add_zero, k0]; decide
  · rw [k1]; decide
  · rw [k2]; decide
  · rw [k3]; decide
  · rw [k4]; decide
  · rw [k5]; decide
  · rw [k6]; decide
/-- other cells under a change of numbers alone -/
theorem NC.oth {T : Nat → Prop} {x : Nat} (h : NC L W T M M') (hx : Oc L M x) : (mK M' x = mK M x ∧ mN M' x = mN M x ∧ mR M' x = mR M x ∧ mI M' x = mI M x) := by
  obtain ⟨-, h2, h3, h4, -⟩ := h
  obtain ⟨a1, a2, a3, a4, a5⟩ := h3.2 x hx.1
  refine ⟨a1, a2, a4 (fun u => hx.2.1 (h2 x u)), a5 ?_⟩
  rintro (u | ⟨t, ht, u⟩)
  · exact hx.2.1 (h2 x u)
  · exact hx.2.2 t (h2 t ht) u.symm
theorem NC.ocx {T : Nat → Prop} {x : Nat} (h : NC L W T M M') (hF : NF L W M) (hx : Oc L M x) : Oc L M' x := by
  refine ⟨Nat.lt_of_lt_of_le hx.1 h.2.2.1.1.1, hx.2.1, fun a ha u => ?_⟩
  by_cases c : T a
  · rcases h.2.2.2.1 a c with q | q
    · exact hx.2.2 a ha (by rw [← q]; exact u)
    · have := hx.1
      omega
  · rw [(h.num hF ha c).1] at u
    exact hx.2.2 a ha u
theorem RsK.nc {T : Nat → Prop} (h : RsK L M e) (k : NC L W T M M') (hF : NF L W M) : RsK L M' e ∧ ∀ i, i ≤ 6 → mI M' (e + i) = mI M (e + i) := by
  obtain ⟨⟨k0, r, ⟨k1, k2, k3, k4, k5, k6⟩, n⟩, o, p, q⟩ := h
  have c := fun i (hi : i ≤ 6) => k.oth (o i hi)
  have c0 := c 0 (by decide)
  rw [Nat.add_zero] at c0
  refine ⟨⟨⟨by rw [c0.1]; exact k0, by rw [c0.2.2.1]; exact r, ?_, ?_⟩, fun i hi => k.ocx hF (o i hi), fun i hi => by rw [(c 2 (by decide)).2.2.1]; exact p i hi, q⟩, fun i hi => (c i hi).2.2.2⟩
  · rw [(c 1 (by decide)).1, (c 2 (by decide)).1, (c 3 (by decide)).1, (c 4 (by decide)).1, (c 5 (by decide)).1, (c 6 (by decide)).1]
    exact ⟨k1, k2, k3, k4, k5, k6⟩
  · rw [(c 1 (by decide)).2.1, (c 2 (by decide)).2.1, (c 3 (by decide)).2.1, (c 4 (by decide)).2.1, (c 5 (by decide)).2.1, (c 6 (by decide)).2.1]
    exact n
end NBL
end
section
/-! The Residues: systems settled. -/
section NBM
variable {G : mG} {d e z n m i k rows B u bits x : Nat} {M M0 M' M1 M2 M3 : mM} {P a b y X Y : Int} {L : List Nat} {W : Nat → Nat}
/-- what the Residues may change -/
def NR (L : List Nat) (W : Nat → Nat) (e : Nat) (M M' : mM) : Prop := (mOk M' ∧ NF L W M') ∧ FA (fun x => nsS M (Trs e) x ∨ S36 e x) (Trs e) M M' ∧ (∀ t, Trs e t → mR M' t 0 = mR M t 0 ∨ mZ M ≤ mR M' t 0) ∧ RmN L M M'
theorem NR.ok (h : NR L W e M M') : mOk M' := h.1.1
theorem NR.nf (h : NR L W e M M') : NF L W M' := h.1.2
theorem NR.refl (hO : mOk M) (hF : NF L W M) : NR L W e M M := ⟨⟨hO, hF⟩, FA.refl, fun _ _ => Or.inl rfl, RmN.refl⟩
theorem NR.trans (h : NR L W e M M1) (k : NR L W e M1 M2) : NR L W e M M2 := by
  obtain ⟨-, h3, h4, h5⟩ := h
  obtain ⟨k1, k3, k4, k5⟩ := k
  refine ⟨k1, h3.trans2 k3 ?_ (fun _ _ y => y), fun t ht => ?_, h5.trans k5⟩
  · intro x hx u
    rcases u with (u | ⟨t, ht, u⟩) | u
    · exact Or.inl (Or.inl u)
    · rcases h4 t ht with q | q
      · exact Or.inl (Or.inr ⟨t, ht, by rw [u, q]⟩)
      · omega
    · exact Or.inr u
  · rcases k4 t ht with q | q
    · rw [q]; exact h4 t ht
    · exact Or.inr (Nat.le_trans h3.1.1 q)
theorem RsK.ncr {T : Nat → Prop} (h : RsK L M e) (k : NC L W T M M') (hF : NF L W M) (hT : ∀ t, T t → Trs e t) : NR L W e M M' := by
  have k' := k.mono hT h.tl hF
  exact ⟨k'.1, k'.2.2.1.mono (fun x _ u => Or.inl u) (fun _ _ u => u), k'.2.2.2.1, k'.2.2.2.2⟩
theorem RsK.s36 (h : RsK L M e) : ∀ x, S36 e x → Oc L M x := fun x u => by
  rcases u with u | u | u | u
  · rw [u]; exact h.2.1 3 (by decide)
  · rw [u]; exact h.2.1 4 (by decide)
  · rw [u]; exact h.2.1 5 (by decide)
  · rw [u]; exact h.2.1 6 (by decide)
/-- the residues' tables change -/
theorem RsK.fir (h : RsK L M e) (f : FI (S36 e) M M') (o : mOk M') (hF : NF L W M) : NR L W e M M' ∧ RsK L M' e ∧ (∀ a, a ∈ L → nv M' a = nv M a) ∧ mI M' (e + 1) = mI M (e + 1) := by
  have oc := h.s36
  have nt' : ∀ a, a ∈ L → Nt M' a (mR M a 0) (cp M a) (sz M a) := fun a ha => (hF.nt ha).fi f (fun u => (oc a u).2.1 ha) (fun u => (oc _ u).2.2 a ha rfl)
  have cc : ∀ a, cp M' a = cp M a := fun a => by unfold cp; rw [f.2.2.1, f.2.1]
  have nf : NF L W M' := ⟨hF.1, fun a ha => ⟨(nt' a ha).nn, by rw [cc]; exact (hF.2.1 a ha).2.1, (hF.2.1 a ha).2.2⟩, fun a b ha hb u => hF.2.2 a b ha hb (by rw [← f.2.2.1]; exact u)⟩
  refine ⟨⟨⟨o, nf⟩, f.fa.mono (fun x _ u => Or.inr u) (fun _ _ u => u), fun t _ => Or.inl (by rw [f.2.2.1]), ?_⟩, ⟨h.1.fi f, fun i hi => ⟨by rw [f.2.2.2.2.1]; exact (h.2.1 i hi).1, (h.2.1 i hi).2.1, fun a ha u => (h.2.1 i hi).2.2 a ha (by rw [← f.2.2.1]; exact u)⟩, fun i hi => by rw [f.2.2.1]; exact h.2.2.1 i hi, h.2.2.2⟩, fun a ha => ?_, f.2.2.2.2.2.2 (e + 1) (fun u => by unfold S36 at u; omega)⟩
  · unfold RmN
    rw [show cp M' = cp M from funext cc, f.2.2.2.2.1, f.2.2.2.2.2.1]
    exact ⟨Nat.le_refl _, Nat.le_refl _⟩
  · rw [(nt' a ha).nv]
    unfold nv
    rw [f.2.2.2.2.2.2 _ (fun u => (oc _ u).2.2 a ha rfl)]
theorem tr_ne {i j : Nat} (h : i ≠ j) : e + 9 + 2 * i ≠ e + 9 + 2 * j := by omega
theorem tr_n7 : e + 9 + 2 * i ≠ e + 7 := by omega
/-- small numbers, all below the modulus -/
def Rm9 (M : mM) (e rows : Nat) (mo : Int) : Prop := nv M (e + 7) = mo ∧ 0 < mo ∧ ∀ i, i ≤ rows → nv M (e + 9 + 2 * i) < mo
theorem s_cm17 {inv mo : Int} (hP : 1000000000 < P ∧ P < 1073741824) (hr : rows ≤ 40) (hK : RsK L M e) (hF : NF L W M) (hm : Rm9 M e rows mo) (hu : mo < 2 ^ (30 * u)) (u38 : u ≤ 38) (hW : ∀ x, Trs e x → 40 ≤ W x) (hrd : Rd9 M e P 0 rows) (hi : 0 ≤ inv ∧ inv ≤ P) : ∀ (t i : Nat) (M1 : mM), rows + 1 ≤ i + t → i ≤ rows + 1 → NC L W (Trs e) M M1 → RsK L M1 e → Rd9 M1 e P 0 rows → nv M1 (e + 7) = mo → (∀ j, j < i → nv M1 (e + 9 + 2 * j) < P * mo) → (∀ j, i ≤ j → j ≤ rows → nv M1 (e + 9 + 2 * j) < mo) → h_Re_combine_17 G (d + 3) e rows P inv i M1 (fun M' => NC L W (Trs e) M M' ∧ RsK L M' e ∧ mI M' (e + 1) = mI M (e + 1) ∧ Rm9 M' e rows (P * mo)) := by
  have e1' : ∀ {M1 : mM}, NC L W (Trs e) M M1 → mI M1 (e + 1) = mI M (e + 1) := fun k => (hK.nc k hF).2 1 (by decide)
  have fin : ∀ (i : Nat) (M1 : mM), i = rows + 1 → NC L W (Trs e) M M1 → RsK L M1 e → nv M1 (e + 7) = mo → (∀ j, j < i → nv M1 (e + 9 + 2 * j) < P * mo) → mK M1 e = 12 ∧ mK M1 (mR M1 e 6) = 10 ∧ Cv G y_Na_multiply (d + 3) [vr (mR M1 e 6), vi P] M1 (fun M13 => mOk M13 ∧ (NC L W (Trs e) M M13 ∧ RsK L M13 e ∧ mI M13 (e + 1) = mI M (e + 1) ∧ Rm9 M13 e rows (P * mo))) := by
    intro i M1 ei hN k1 v7 dn'
    obtain ⟨⟨e0, ⟨-, -, -, -, -, -, r6⟩, -, -⟩, o, p, m7⟩ := id k1
    have F1 := hN.nf
    have s7 := F1.szv m7 (show nv M1 (e + 7) < 2 ^ (30 * u) by rw [v7]; exact hu)
    rw [r6]
    refine ⟨e0, F1.kd m7, (f_multiply (d := d + 1) ⟨by omega, hP.2⟩ hN.ok F1 m7 (by have := hW (e + 7) (Or.inl rfl); omega)).mono (fun M13 q => ?_)⟩
    obtain ⟨c, v⟩ := q
    have c' := c.mono (T' := Trs e) (fun t ht => Or.inl ht) k1.tl F1
    have N2 := hN.trans c'
    rw [v7] at v
    exact ⟨c.ok, N2, (k1.nc c F1).1, e1' N2, v, Int.mul_pos (by omega) hm.2.1, fun j hj => by rw [c.v F1 (p j (by omega)).2 tr_n7]; exact dn' j (by omega)⟩
  intro t
  induction t with
  | zero =>
    intro i M1 h1 h2 hN k1 rd v7 dn' up
    exact k_Re_combine_17 hN.ok ⟨by omega, by omega⟩ ⟨by omega, by omega⟩ ⟨by omega, by omega⟩ ⟨by omega, by omega⟩ ⟨fun _ => fin i M1 (by omega) hN k1 v7 dn', fun u => absurd (by omega) u⟩
  | succ t ih =>
    intro i M1 h1 h2 hN k1 rd v7 dn' up
    by_cases ei : i = rows + 1
    · exact ih i M1 (by omega) h2 hN k1 rd v7 dn' up
    obtain ⟨⟨e0, ⟨-, r1, -, -, -, r5, r6⟩, ⟨-, k2, -, -, -, k6⟩, ⟨-, n2, -, -, -, n6⟩⟩, o, p, m7⟩ := id k1
    have F1 := hN.nf
    obtain ⟨pi, mi⟩ := p i (by omega)
    have ri := rd i (by omega) (by omega)
    have vi0 := up i (Nat.le_refl _) (by omega)
    have s7 := F1.szv m7 (show nv M1 (e + 7) < 2 ^ (30 * u) by rw [v7]; exact hu)
    have si := F1.szv mi (Int.lt_trans vi0 hu)
    have wi := hW _ (Or.inr ⟨i, by omega, rfl⟩)
    refine k_Re_combine_17 hN.ok ⟨by omega, by omega⟩ ⟨by omega, by omega⟩ ⟨by omega, by omega⟩ ⟨by omega, by omega⟩ ⟨fun u => absurd u (by omega), fun _ => ?_⟩
    rw [r5, r1, n6, n2, Int.toNat_natCast, pi]
    refine ⟨e0, k6, ⟨by omega, by omega⟩, k2, ⟨by omega, by omega⟩, F1.kd mi, (s_Na_modulo (d := d + 3) ⟨by omega, hP.2⟩ hN.ok (F1.nt mi)).mono (fun x23 M22 q => ?_)⟩
    obtain ⟨e22, x0, x1⟩ := q
    rw [e22, r1, n2, pi, r6]
    have q0 : 0 ≤ mI M1 (e + 6) i + P - x23 := by omega
    obtain ⟨t1, t2, t3⟩ := tm_b (P := P) q0 (by omega)
    rw [t1]
    obtain ⟨p1, p2⟩ := pr_b hP.2 ⟨t2, Int.le_of_lt t3⟩ hi ⟨Int.le_refl 0, by omega⟩
    rw [Int.zero_add] at p1 p2
    obtain ⟨t4, t5, t6⟩ := tm_b (P := P) p1 (by omega)
    rw [t4]
    refine ⟨⟨by omega, by omega⟩, hN.ok, e0, k2, ⟨by omega, by omega⟩, ⟨by omega, by omega⟩, by omega, p2, by omega, F1.kd mi, (f_add (d := d) ⟨t5, by omega⟩ hN.ok F1 mi m7 tr_n7 (by omega) (by omega)).mono (fun M33 q => ?_)⟩
    obtain ⟨c, v⟩ := q
    have c' := c.mono (T' := Trs e) (fun t ht => Or.inr ⟨i, by omega, ht⟩) k1.tl F1
    obtain ⟨k33, i33⟩ := k1.nc c F1
    rw [show ((i : Int) + 1) = ((i + 1 : Nat) : Int) by omega]
    have v7' := (c.v F1 m7 (fun e => tr_n7 e.symm)).trans v7
    refine ⟨c.ok, ih (i + 1) M33 (by omega) (by omega) (hN.trans c') k33 (fun j h1 h2 => by rw [i33 6 (by decide)]; exact rd j h1 h2) v7' (fun j hj => ?_) (fun j hj1 hj2 => by rw [c.v F1 (p j (by omega)).2 (tr_ne (by omega))]; exact up j (by omega) hj2)⟩
    by_cases cj : j = i
    · rw [cj, v, v7]
      have := Int.mul_le_mul_of_nonneg_right (show (mI M1 (e + 6) i + P - x23) % P * inv % P + 1 ≤ P by omega) (Int.le_of_lt hm.2.1)
      rw [Int.add_mul, Int.one_mul] at this
      omega
    · rw [c.v F1 (p j (by omega)).2 (tr_ne cj)]
      exact dn' j (by omega)
theorem s_Re_combine {mo : Int} (hP : 1000000000 < P ∧ P < 1073741824) (hr : rows ≤ 40) (hO : mOk M) (hK : RsK L M e) (hF : NF L W M) (hm : Rm9 M e rows mo) (hu : mo < 2 ^ (30 * u)) (u38 : u ≤ 38) (hW : ∀ x, Trs e x → 40 ≤ W x) (hrd : Rd9 M e P 0 rows) : Cv G y_Re_combine (d + 4) [vr e, vi rows, vi P] M (fun M' => NC L W (Trs e) M M' ∧ RsK L M' e ∧ mI M' (e + 1) = mI M (e + 1) ∧ Rm9 M' e rows (P * mo)) := by
  obtain ⟨⟨e0, ⟨-, -, -, -, -, -, r6⟩, -, -⟩, o, p, m7⟩ := id hK
  refine k_Re_combine hO ⟨by omega, by omega⟩ ⟨by omega, by omega⟩ ?_
  rw [r6]
  refine ⟨e0, hF.kd m7, (s_Na_modulo (d := d + 3) ⟨by omega, hP.2⟩ hO (hF.nt m7)).mono (fun x4 M3 q => ?_)⟩
  obtain ⟨e3, x0, x1⟩ := q
  rw [e3]
  refine ⟨⟨by omega, by omega⟩, hO, (s_Re_inverse (d := d + 3) ⟨x0, Int.le_of_lt x1⟩ ⟨by omega, hP.2⟩ hO).mono (fun x7 M6 q => ?_)⟩
  obtain ⟨e6, y0, y1⟩ := q
  rw [e6]
  exact ⟨⟨by omega, by omega⟩, hO, s_cm17 hP hr hK hF hm hu u38 hW hrd ⟨y0, y1⟩ (rows + 1) 0 M (by omega) (by omega) (NC.refl hO hF hK.tl) hK hrd hm.1 (fun j hj => absurd hj (by omega)) (fun j _ hj => hm.2.2 j hj)⟩
theorem prL_b : ∀ i, i < 36 → 1000000000 < prL.getD i 0 ∧ prL.getD i 0 < 1073741824 := by decide
/-- what settling leaves behind -/
def settQ (L : List Nat) (W : Nat → Nat) (e rows bits : Nat) (M M' : mM) : Prop := NR L W e M M' ∧ RsK L M' e ∧ ∀ i, i ≤ rows → nv M' (e + 9 + 2 * i) < 2 ^ (bits + 30)
theorem s_se33 (hr : rows ≤ 40) (hb : bits ≤ 1000) (hF0 : NF L W M) (hE : Ent9 M e (rows * 41)) (hW : ∀ x, Trs e x → 40 ≤ W x) : ∀ (t i : Nat) (mo : Int) (M1 : mM), 36 ≤ i + t → i ≤ 36 → NR L W e M M1 → RsK L M1 e → mI M1 (e + 1) = mI M (e + 1) → Rm9 M1 e rows mo → mo < 2 ^ (30 * (i + 1)) → mo < 2 ^ (bits + 30) → h_Re_settle_33 G (d + 4) e rows bits i M1 (settQ L W e rows bits M) := by
  intro t
  induction t with
  | zero =>
    intro i mo M1 h1 h2 hN k1 i1 hm hu hb'
    exact k_Re_settle_33 hN.ok ⟨by omega, by omega⟩ ⟨by omega, by omega⟩ ⟨by omega, by omega⟩ ⟨fun _ => ⟨hN, k1, fun j hj => Int.lt_trans (hm.2.2 j hj) hb'⟩, fun u => absurd (by omega) u⟩
  | succ t ih =>
    intro i mo M1 h1 h2 hN k1 i1 hm hu hb'
    have done : settQ L W e rows bits M M1 := ⟨hN, k1, fun j hj => Int.lt_trans (hm.2.2 j hj) hb'⟩
    refine k_Re_settle_33 hN.ok ⟨by omega, by omega⟩ ⟨by omega, by omega⟩ ⟨by omega, by omega⟩ ⟨fun _ => done, fun u => ?_⟩
    have F1 := hN.nf
    obtain ⟨⟨e0, ⟨-, -, -, -, -, -, r6⟩, -, -⟩, o, p, m7⟩ := id k1
    have cb := F1.cb m7
    have sc := F1.sc m7
    rw [r6, Int.toNat_natCast, show ((i : Int) + 1) = ((i + 1 : Nat) : Int) by omega]
    refine ⟨e0, F1.kd m7, (s_Na_bits (d := d + 3) hN.ok (F1.nt m7)).mono (fun x20 M19 q => ?_)⟩
    obtain ⟨e19, nb, en, n1, n2, -⟩ := q
    have n2' : nv M1 (e + 7) < 2 ^ nb := n2
    rw [hm.1] at n2'
    rw [e19]
    refine ⟨⟨by omega, by omega⟩, hN.ok, fun _ => done, fun nl => ⟨⟨by omega, by omega⟩, e0, ?_⟩⟩
    obtain ⟨P1, P2⟩ := prL_b i (by omega)
    generalize prL.getD i 0 = P at *
    have mb : mo < 2 ^ bits := Int.lt_of_lt_of_le n2' (p2m (by omega))
    have pm1 : P * mo < 2 ^ (30 * (i + 1 + 1)) := by
      rw [p30, Int.mul_comm]
      have := Int.mul_le_mul_of_nonneg_left (show P ≤ 1073741824 by omega) (Int.le_of_lt hm.2.1)
      omega
    have pm2 : P * mo < 2 ^ (bits + 30) := by
      rw [Int.pow_add, Int.mul_comm, show (2 : Int) ^ 30 = 1073741824 by decide]
      have := Int.mul_le_mul_of_nonneg_left (show P ≤ 1073741824 by omega) (Int.le_of_lt hm.2.1)
      omega
    refine (s_Re_eliminate (d := d + 2) ⟨P1, P2⟩ k1.1 hr (fun j hj => by rw [i1]; exact hE j hj) hN.ok).mono (fun x27 M26 q => ?_)
    obtain ⟨o26, f26, x01, el⟩ := q
    obtain ⟨n26, k26, v26, i26⟩ := k1.fir f26 o26 F1
    have N26 := hN.trans n26
    have m26 : Rm9 M26 e rows mo := ⟨by rw [v26 _ m7]; exact hm.1, hm.2.1, fun j hj => by rw [v26 _ (p j (by omega)).2]; exact hm.2.2 j hj⟩
    refine ⟨m_b32 x01, o26, fun _ => ih (i + 1) mo M26 (by omega) (by omega) N26 k26 (by rw [i26]; exact i1) m26 (Int.lt_of_lt_of_le hu (p30m (by omega))) hb', fun x0 => ⟨⟨by omega, by omega⟩, k26.1.1, ?_⟩⟩
    obtain ⟨w26, iv26, d26⟩ := el x0
    refine (s_Re_substitute (d := d + 4) ⟨P1, P2⟩ k26.1 hr w26 iv26 d26 o26).mono (fun M35 q => ?_)
    obtain ⟨o35, f35, rd35⟩ := q
    obtain ⟨n35, k35, v35, i35⟩ := k26.fir (f35.mono (fun _ u => Or.inr (Or.inr (Or.inr u)))) o35 N26.nf
    have N35 := N26.trans n35
    have m35 : Rm9 M35 e rows mo := ⟨by rw [v35 _ m7]; exact m26.1, hm.2.1, fun j hj => by rw [v35 _ (p j (by omega)).2]; exact m26.2.2 j hj⟩
    refine ⟨o35, ⟨by omega, by omega⟩, k35.1.1, (s_Re_combine (d := d) (u := i + 1) ⟨P1, P2⟩ hr o35 k35 N35.nf m35 hu (by omega) hW rd35).mono (fun M40 q => ?_)⟩
    obtain ⟨c40, k40, i40, m40⟩ := q
    exact ⟨c40.ok, ih (i + 1) (P * mo) M40 (by omega) (by omega) (N35.trans (k35.ncr c40 N35.nf (fun _ h => h))) k40 (by rw [i40, i35, i26]; exact i1) m40 pm1 pm2⟩
/-- a system is settled -/
theorem s_Re_settle (hr : rows ≤ 40) (hb : bits ≤ 1000) (hO : mOk M) (hF : NF L W M) (hK : RsK L M e) (hE : Ent9 M e (rows * 41)) (hW : ∀ x, Trs e x → 40 ≤ W x) : Cv G y_Re_settle (d + 5) [vr e, vi rows, vi bits] M (settQ L W e rows bits M) := by
  obtain ⟨⟨e0, ⟨-, -, -, -, -, -, r6⟩, -, -⟩, o, p, m7⟩ := id hK
  refine k_Re_settle hO ⟨by omega, by omega⟩ ⟨by omega, by omega⟩ ?_
  rw [r6]
  refine ⟨e0, hF.kd m7, (f_put0 (d := d + 4) ⟨by decide, by decide⟩ hO hF m7).mono (fun M3 q => ?_)⟩
  obtain ⟨c3, v3⟩ := q
  have k3 := (hK.nc c3 hF)
  refine ⟨c3.ok, ?_⟩
  suffices HH : ∀ (t i : Nat) (M1 : mM), rows + 1 ≤ i + t → i ≤ rows + 1 → NR L W e M M1 → RsK L M1 e → mI M1 (e + 1) = mI M (e + 1) → nv M1 (e + 7) = 1 → (∀ j, j < i → nv M1 (e + 9 + 2 * j) = 0) → h_Re_settle_10 G (d + 4) e rows bits i M1 (settQ L W e rows bits M) from
    HH (rows + 1) 0 M3 (by omega) (by omega) (hK.ncr c3 hF (fun t ht => Or.inl ht)) k3.1 (k3.2 1 (by decide)) v3 (fun j hj => absurd hj (by omega))
  intro t
  induction t with
  | zero =>
    intro i M1 h1 h2 hN k1 i1 v7 z
    refine k_Re_settle_10 hN.ok ⟨by omega, by omega⟩ ⟨by omega, by omega⟩ ⟨by omega, by omega⟩ ⟨fun _ => ?_, fun u => absurd (by omega) u⟩
    have b1 : (1 : Int) < 2 ^ (bits + 30) := by
      rw [Int.pow_add]
      have h1 : (0 : Int) < 2 ^ bits := Int.pow_pos (by decide)
      have h2 : (2 : Int) ^ 30 = 1073741824 := by decide
      omega
    exact s_se33 hr hb hF hE hW 36 0 1 M1 (by omega) (by omega) hN k1 i1 ⟨v7, by decide, fun j hj => by rw [z j (by omega)]; decide⟩ (by decide) b1
  | succ t ih =>
    intro i M1 h1 h2 hN k1 i1 v7 z
    by_cases ei : i = rows + 1
    · exact ih i M1 (by omega) h2 hN k1 i1 v7 z
    obtain ⟨⟨e0, ⟨-, r1, -⟩, ⟨-, k2, -⟩, ⟨-, n2, -⟩⟩, o, p, m7⟩ := id k1
    obtain ⟨pi, mi⟩ := p i (by omega)
    have F1 := hN.nf
    refine k_Re_settle_10 hN.ok ⟨by omega, by omega⟩ ⟨by omega, by omega⟩ ⟨by omega, by omega⟩ ⟨fun u => absurd u (by omega), fun _ => ?_⟩
    rw [r1, n2, Int.toNat_natCast, pi, show ((i : Int) + 1) = ((i + 1 : Nat) : Int) by omega]
    refine ⟨e0, k2, ⟨by omega, by omega⟩, F1.kd mi, (f_put0 (d := d + 4) ⟨by decide, by decide⟩ hN.ok F1 mi).mono (fun M12 q => ?_)⟩
    obtain ⟨c, v⟩ := q
    obtain ⟨k12, i12⟩ := k1.nc c F1
    refine ⟨c.ok, ih (i + 1) M12 (by omega) (by omega) (hN.trans (k1.ncr c F1 (fun t ht => Or.inr ⟨i, by omega, ht⟩))) k12 (by rw [i12 1 (by decide)]; exact i1) ((c.v F1 m7 (fun e => tr_n7 e.symm)).trans v7) (fun j hj => ?_)⟩
    by_cases cj : j = i
    · rw [cj]; exact v
    · rw [c.v F1 (p j (by omega)).2 (tr_ne cj)]; exact z j (by omega)
end NBM
end
section
/-! The class's Solver: its tables; which commands are left, which states are unknown. -/
section NBN
variable {G : mG} {d s g cn cc bc i k n c lo hi : Nat} {M M0 M' M1 M2 M3 : mM}
/-- the Solver's tables -/
def SoT (M : mM) (s g : Nat) : Prop := (mK M s = 8 ∧ g + 22 < s) ∧ (mR M s 0 = s + 1 ∧ mR M s 1 = s + 29 ∧ mR M s 2 = s + 30 ∧ mR M s 3 = g ∧ mR M s 4 = s + 31 ∧ mR M s 5 = s + 122 ∧ mR M s 6 = s + 123 ∧ mR M s 7 = s + 124 ∧ mR M s 8 = s + 125 ∧ mR M s 9 = s + 126 ∧ mR M s 15 = s + 128 ∧ mR M s 16 = s + 129 ∧ mR M s 17 = s + 130) ∧ (mK M (s + 29) = 30 ∧ mK M (s + 30) = 30 ∧ mK M (s + 122) = 30 ∧ mK M (s + 123) = 30 ∧ mK M (s + 124) = 30 ∧ mK M (s + 125) = 30 ∧ mK M (s + 126) = 30 ∧ mK M (s + 128) = 31 ∧ mK M (s + 129) = 30) ∧ (mN M (s + 29) = 512 ∧ mN M (s + 30) = 512 ∧ mN M (s + 122) = 512 ∧ mN M (s + 123) = 512 ∧ mN M (s + 124) = 512 ∧ mN M (s + 125) = 40 ∧ mN M (s + 126) = 40 ∧ mN M (s + 128) = 4097 ∧ mN M (s + 129) = 512)
theorem SoT.fi {S : Nat → Prop} (h : SoT M s g) (f : FI S M M') : SoT M' s g := by
  unfold SoT at h ⊢
  rw [f.1, f.2.1, f.2.2.1]
  exact h
theorem GK9.fi {S : Nat → Prop} (h : GK9 M g) (f : FI S M M') : GK9 M' g := by
  unfold GK9 at h ⊢
  rw [f.1, f.2.1, f.2.2.1]
  exact h
/-- the Solver's and the game's tables -/
def SG (M : mM) (s g cn cc bc : Nat) : Prop := mOk M ∧ SoT M s g ∧ GK9 M g ∧ (mR M g 3 = g + 3 ∧ mN M (g + 3) = 512) ∧ GTT M g cn cc bc
theorem SG.fi {S : Nat → Prop} (h : SG M s g cn cc bc) (f : FI S M M') (o : mOk M') (hS : ∀ i, i ≤ 9 → ¬ S (g + i)) : SG M' s g cn cc bc := by
  obtain ⟨h1, h2, h3, h4, h5⟩ := h
  exact ⟨o, h2.fi f, h3.fi f, by rw [f.2.1, f.2.2.1]; exact h4, h5.same (fun i hi => f.2.2.2.2.2.2 _ (hS i hi))⟩
/-- each state's commands that are left -/
def LHs (M : mM) (s cn cc : Nat) : Prop := ∀ k, k < cn → ∃ lo hi : Nat, mI M (s + 122) k = ((lo : Nat) : Int) ∧ mI M (s + 123) k = ((hi : Nat) : Int) ∧ lo ≤ hi ∧ hi ≤ cc ∧ hi ≤ lo + 60
/-- the choices of a player that is kept -/
def Tld (M : mM) (g cn : Nat) (kp : Int) : Prop := kp ≠ 0 → ∀ k, k < cn → mI M (g + 2) k = kp → ∀ x y : Nat, mI M (g + 4) k = ((x : Nat) : Int) → mI M (g + 4) (k + 1) = ((y : Nat) : Int) → 0 ≤ mI M (g + 3) k ∧ mI M (g + 3) k < ((y : Nat) : Int) - ((x : Nat) : Int)
def LHx (M M' : mM) (s g n : Nat) : Prop := ∀ k, k < n → mI M' (s + 122) k = mI M (g + 4) k ∧ mI M' (s + 123) k = mI M (g + 4) (k + 1)
def S56 (s x : Nat) : Prop := x = s + 122 ∨ x = s + 123
theorem s_So_leaveCommands {kp : Int} (hkp : i32 kp) (h : SG M s g cn cc bc) (ht : Tld M g cn kp) : Cv G y_So_leaveCommands d [vr s, vi kp] M (fun M' => FI (S56 s) M M' ∧ SG M' s g cn cc bc ∧ LHs M' s cn cc ∧ (kp = 0 → LHx M M' s g cn)) := by
  refine k_So_leaveCommands h.1 hkp ?_
  have gs := h.2.1.1.2
  have nS : ∀ i, i ≤ 9 → ¬ S56 s (g + i) := fun i hi u => by unfold S56 at u; omega
  suffices HH : ∀ (t k : Nat) (M1 : mM), cn ≤ k + t → k ≤ cn → FI (S56 s) M M1 → SG M1 s g cn cc bc → LHs M1 s k cc → (kp = 0 → LHx M M1 s g k) → h_So_leaveCommands_2 G d s kp k M1 (fun M' => FI (S56 s) M M' ∧ SG M' s g cn cc bc ∧ LHs M' s cn cc ∧ (kp = 0 → LHx M M' s g cn)) from HH cn 0 M (by omega) (by omega) FI.refl h (fun k hk => absurd hk (by omega)) (fun _ k hk => absurd hk (by omega))
  intro t
  induction t with
  | zero =>
    intro k M1 h1 h2 F hg L X
    have ek : k = cn := by omega
    subst ek
    obtain ⟨o, ⟨⟨s0, -⟩, ⟨-, -, -, r3, -⟩, -⟩, hG, -, hT⟩ := id hg
    refine k_So_leaveCommands_2 o hkp ⟨by have := hT.1.1; omega, by have := hT.1.1; omega⟩ ?_
    rw [r3, hT.2.2.2]
    exact ⟨s0, hG.1, fun _ => ⟨F, hg, L, X⟩, fun u => absurd (Int.le_refl _) u⟩
  | succ t ih =>
    intro k M1 h1 h2 F hg L X
    by_cases ek : k = cn
    · exact ih k M1 (by omega) h2 F hg L X
    have hk : k < cn := by omega
    obtain ⟨o, ⟨⟨s0, -⟩, ⟨-, -, -, r3, -, r5, r6, -⟩, ⟨-, -, k5, k6, -⟩, ⟨-, -, n5, n6, -⟩⟩, ⟨g0, ⟨q2, q4, -⟩, gk, ⟨m2, m4, -⟩⟩, ⟨q3, m3⟩, hT⟩ := id hg
    obtain ⟨x, y, x1, y1, xy, yc⟩ := hT.2.2.1 k hk
    obtain ⟨hc1, hc2, hc3⟩ := hT.1
    have e2 : mI M1 (g + 2) = mI M (g + 2) := F.2.2.2.2.2.2 _ (nS 2 (by decide))
    have e3 : mI M1 (g + 3) = mI M (g + 3) := F.2.2.2.2.2.2 _ (nS 3 (by decide))
    have e4 : mI M1 (g + 4) = mI M (g + 4) := F.2.2.2.2.2.2 _ (nS 4 (by decide))
    refine k_So_leaveCommands_2 o hkp ⟨by omega, by omega⟩ ?_
    rw [r3, hT.2.2.2, q2, q4, q3, m2, m4, m3, r5, n5, Int.toNat_natCast, x1, show Int.toNat ((k : Int) + 1) = k + 1 by omega]
    refine ⟨s0, g0, fun u => absurd u (by omega), fun _ => ⟨fun _ => ⟨gk 2 (by decide) (by decide), ⟨by omega, by omega⟩⟩, fun v15 e15 => ⟨gk 4 (by decide) (by decide), ⟨by omega, by omega⟩, fun _ => ⟨gk 3 (by decide) (by decide), ⟨by omega, by omega⟩⟩, fun v25 e25 => ?_⟩⟩⟩
    have vb : (v15 = 0 ∧ v25 = 0) ∨ (v15 ≠ 0 ∧ 0 ≤ v25 ∧ v25 < ((y : Nat) : Int) - ((x : Nat) : Int)) := by
      by_cases c : (kp = 0) ∨ (¬ (mI M1 (g + 2) k = kp))
      · rw [if_pos c] at e15
        rw [e15, if_pos rfl] at e25
        exact Or.inl ⟨e15, e25⟩
      · rw [if_neg c] at e15
        rw [e15, if_neg (by decide)] at e25
        have k0 : kp ≠ 0 := fun u => c (Or.inl u)
        have k2 : mI M1 (g + 2) k = kp := Classical.byContradiction (fun u => c (Or.inr u))
        have := ht k0 k hk (by rw [← e2]; exact k2) x y (by rw [← e4]; exact x1) (by rw [← e4]; exact y1)
        rw [← e3, ← e25] at this
        exact Or.inr ⟨by rw [e15]; decide, this⟩
    obtain ⟨v, ev⟩ : ∃ v : Nat, v25 = ((v : Nat) : Int) := ⟨v25.toNat, by omega⟩
    subst ev
    refine ⟨k5, ⟨by omega, by omega⟩, ⟨by omega, by omega⟩, fun M31 e31 => ?_⟩
    have f31 : FI (fun z => z = s + 122) M1 M31 := by rw [e31]; exact FI.ui rfl
    have n4 : g + 4 ≠ s + 122 := by omega
    have l31 : mI M31 (s + 122) k = ((x + v : Nat) : Int) := by rw [mI_ui _ k e31, if_pos ⟨rfl, rfl⟩]; omega
    rw [f31.1, f31.2.1, f31.2.2.1, r3, r5, r6, q4, m4, n5, n6, l31, f31.2.2.2.2.2.2 (g + 4) n4, y1]
    refine ⟨⟨fun _ => ⟨g0, gk 4 (by decide) (by decide), ⟨by omega, by omega⟩⟩, fun _ => ⟨k5, ⟨by omega, by omega⟩⟩⟩, fun v39 e39 => ?_⟩
    obtain ⟨hi, eh, h1', h2'⟩ : ∃ hi : Nat, v39 = ((hi : Nat) : Int) ∧ x + v ≤ hi ∧ hi ≤ cc ∧ hi ≤ x + v + 60 := by
      rcases vb with ⟨c0, c1⟩ | ⟨c0, c1, c2⟩
      · rw [if_pos c0] at e39
        exact ⟨y, e39, by omega, by omega, by omega⟩
      · rw [if_neg c0] at e39
        exact ⟨x + v + 1, by rw [e39]; omega, by omega, by omega, by omega⟩
    refine ⟨k6, ⟨by omega, by omega⟩, ⟨by omega, by omega⟩, fun M45 e45 => ?_⟩
    have f45 : FI (fun z => z = s + 123) M31 M45 := by rw [e45]; exact FI.ui rfl
    have ff : FI (S56 s) M1 M45 := (f31.mono (fun _ u => Or.inl u)).trans (f45.mono (fun _ u => Or.inr u))
    have o45 : mOk M45 := by rw [e45]; exact mOk_UI (by rw [e31]; exact mOk_UI o ⟨by omega, by omega⟩) ⟨by omega, by omega⟩
    rw [show ((k : Int) + 1) = ((k + 1 : Nat) : Int) by omega]
    refine ih (k + 1) M45 (by omega) (by omega) (F.trans ff) (hg.fi ff o45 nS) (fun j hj => ?_) (fun k0 j hj => ?_)
    rotate_left
    · by_cases c : j = k
      · rw [c]
        rw [if_pos (Or.inl k0)] at e15
        have v0 : v = 0 := by
          rcases vb with y | y
          · omega
          · exact absurd e15 y.1
        rw [if_pos e15] at e39
        refine ⟨?_, ?_⟩
        · rw [f45.2.2.2.2.2.2 (s + 122) (show ¬ s + 122 = s + 123 by omega), l31, ← e4, x1, v0, Nat.add_zero]
        · rw [mI_ui _ k e45, if_pos ⟨rfl, rfl⟩, e39, ← e4, y1]
      · obtain ⟨a1, a2⟩ := X k0 j (by omega)
        exact ⟨by rw [f45.2.2.2.2.2.2 (s + 122) (show ¬ s + 122 = s + 123 by omega), mI_ui _ j e31, if_neg (fun u => c u.2)]; exact a1, by rw [mI_ui _ j e45, if_neg (fun u => c u.2), f31.2.2.2.2.2.2 (s + 123) (show ¬ s + 123 = s + 122 by omega)]; exact a2⟩
    by_cases c : j = k
    · rw [c]
      exact ⟨x + v, hi, by rw [f45.2.2.2.2.2.2 (s + 122) (show ¬ s + 122 = s + 123 by omega)]; exact l31, by rw [mI_ui _ k e45, if_pos ⟨rfl, rfl⟩]; exact eh, h1', h2'⟩
    · obtain ⟨l, h', a1, a2, a3⟩ := L j (by omega)
      exact ⟨l, h', by rw [f45.2.2.2.2.2.2 (s + 122) (show ¬ s + 122 = s + 123 by omega), mI_ui _ j e31, if_neg (fun u => c u.2)]; exact a1, by rw [mI_ui _ j e45, if_neg (fun u => c u.2), f31.2.2.2.2.2.2 (s + 123) (show ¬ s + 123 = s + 122 by omega)]; exact a2, a3⟩
/-- which unknown state a state is -/
def Slo (M : mM) (s un : Nat) : Prop := ∀ k, k < 512 → mI M (s + 124) k = -1 ∨ (0 ≤ mI M (s + 124) k ∧ mI M (s + 124) k < un)
end NBN
end
section
/-! The class's Solver: the unknown states, their weights. -/
section NBO
variable {G : mG} {d s g cn cc bc i k n c lo hi un : Nat} {M M0 M' M1 M2 M3 : mM}
/-- the unknown states -/
def Unk (M : mM) (s cn un : Nat) : Prop := mI M s 10 = ((un : Nat) : Int) ∧ un ≤ 40 ∧ Slo M s un ∧ ∀ i, i < un → ∃ k c lo hi : Nat, mI M (s + 125) i = ((k : Nat) : Int) ∧ k < cn ∧ mI M (s + 126) i = ((c : Nat) : Int) ∧ mI M (s + 122) k = ((lo : Nat) : Int) ∧ mI M (s + 123) k = ((hi : Nat) : Int) ∧ lo ≤ c ∧ c < hi
def Sun (s x : Nat) : Prop := x = s ∨ x = s + 124 ∨ x = s + 125 ∨ x = s + 126
theorem sun_g (h : SG M s g cn cc bc) : ∀ i, i ≤ 9 → ¬ Sun s (g + i) := fun i hi u => by
  have := h.2.1.1.2
  unfold Sun at u
  omega
end NBO
end
section
/-! The class's Solver: weights; numbers of ways. -/
section NBP
variable {G : mG} {d s g cn cc bc i k n c lo hi un : Nat} {M M0 M' M1 M2 M3 : mM}
def wsu (wt : Nat → Nat) : Nat → Nat
  | 0 => 0
  | n + 1 => wsu wt n + wt n
theorem wsu_cg {f h : Nat → Nat} : ∀ n, (∀ i, i < n → f i = h i) → wsu f n = wsu h n
  | 0, _ => rfl
  | n + 1, e => by
    show wsu f n + f n = wsu h n + h n
    rw [wsu_cg n (fun i hi => e i (by omega)), e n (by omega)]
theorem wsu_le {f h : Nat → Nat} : ∀ n, (∀ i, i < n → f i ≤ h i) → wsu f n ≤ wsu h n
  | 0, _ => Nat.le_refl _
  | n + 1, e => Nat.add_le_add (wsu_le n (fun i hi => e i (by omega))) (e n (by omega))
/-- every command that is left for the unknown state i has a multiple below 2^w -/
def wtO (M : mM) (s g i w : Nat) : Prop := ∀ k lo hi c : Nat, mI M (s + 125) i = ((k : Nat) : Int) → mI M (s + 122) k = ((lo : Nat) : Int) → mI M (s + 123) k = ((hi : Nat) : Int) → lo ≤ c → c < hi → mI M (g + 6) c < 2 ^ w
theorem s_nlz0 (hO : mOk M) : Ci G y_JI_nlz d [vi 0] M (fun r M' => M' = M ∧ r = 32) := k_JI_nlz hO ⟨by decide, by decide⟩ ⟨fun u => absurd u (by decide), fun _ v41 e41 => ⟨rfl, by rw [e41, if_pos rfl]⟩⟩
end NBP
end
