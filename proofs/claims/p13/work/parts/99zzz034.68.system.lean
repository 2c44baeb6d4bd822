/-! The equations that are written down have one small answer. -/
theorem cw_sr {M : mM} {s c : Nat} {f : Nat → Nat → Rat} : ∀ (n : Nat), sr (fun j => cw M s c (f j)) n = cw M s c (fun k => sr (fun j => f j k) n)
  | 0 => by
    show (0 : Rat) = cw M s c (fun _ => 0)
    have e := cw_mul (M := M) (s := s) (c := c) (x := 0) (f := fun _ => 0)
    have e1 : cw M s c (fun _ => 0) = cw M s c (fun _ => 0 * 0) := cw_congr (fun b hb => by grind)
    rw [e1, e]
    grind
  | n + 1 => by
    rw [sr, cw_sr n, ← cw_add]
    rfl
theorem pr_pow {f w : Nat → Int} : ∀ (k : Nat), (∀ r, r < k → 0 ≤ f r ∧ f r ≤ 2 ^ (w r).toNat ∧ 0 ≤ w r) → pr f k ≤ 2 ^ (sm w k).toNat ∧ 0 ≤ pr f k ∧ 0 ≤ sm w k
  | 0, _ => ⟨by show (1 : Int) ≤ 2 ^ (0 : Int).toNat; decide, by show (0 : Int) ≤ 1; decide, by show (0 : Int) ≤ 0; decide⟩
  | k + 1, h => by
    obtain ⟨a, b, c⟩ := pr_pow k (fun r hr => h r (by omega))
    obtain ⟨h1, h2, h3⟩ := h k (by omega)
    rw [pr, sm]
    refine ⟨?_, Int.mul_nonneg b h1, by omega⟩
    rw [show (sm w k + w k).toNat = (sm w k).toNat + (w k).toNat by omega, Int.pow_add]
    exact Int.mul_le_mul a h2 h1 (Int.pow_nonneg (by omega))
theorem sm_part {f : Nat → Int} {a : Nat} : ∀ (n : Nat), (∀ c, c < a + n → 0 ≤ f c) → sm f a ≤ sm f (a + n)
  | 0, _ => Int.le_refl _
  | n + 1, h => by
    have h1 := sm_part (f := f) (a := a) n (fun c hc => h c (by omega))
    have h2 := h (a + n) (by omega)
    have e : sm f (a + (n + 1)) = sm f (a + n) + f (a + n) := rfl
    omega
theorem two_pow_le {a b : Nat} (h : a ≤ b) : (2 : Int) ^ a ≤ 2 ^ b := by
  obtain ⟨c, rfl⟩ := Nat.le.dest h
  rw [Int.pow_add]
  have h1 : (0 : Int) < 2 ^ a := Int.pow_pos (by omega)
  have h2 : (0 : Int) < 2 ^ c := Int.pow_pos (by omega)
  have := Int.mul_le_mul_of_nonneg_left (a := 1) (b := 2 ^ c) (c := 2 ^ a) (by omega) (by omega)
  omega
theorem ic_mono {x y : Int} (h : x ≤ y) : (x : Rat) ≤ (y : Rat) := by exact_mod_cast h
theorem p480 : (2 : Int) ^ 480 < 16777216 ^ 21 := by decide
theorem p510 : (1000000000 : Int) * 2 ^ 480 < 16777216 ^ 56 := by decide
/-- a state's row, as a function of states -/
def eU (M : mM) (s : Nat) (g : Nat → Rat) : Nat → Rat := fun k => if mI M (s + 36) k ≠ 0 ∧ mI M (s + 22) k ≠ 3 then g (mI M (s + 40) k).toNat else 0
def rowD (M : mM) (s : Nat) : Nat → Int := fun r => mI M (s + 24) (rwc M s r)
def rowN (M : mM) (s m : Nat) : Nat → Nat → Int := fun r c => sm (fun b => mI M (s + 27) (bg M s (rwc M s r) + b) * (mI M (s + 24) (rwc M s r) / mI M (s + 28) (bg M s (rwc M s r) + b)) * (if c = m then isT M s else isU M s c) (tg M s (bg M s (rwc M s r) + b))) (nb M s (rwc M s r))
/-- each row's command may lead nearer to the end -/
def Lds (M : mM) (s m : Nat) (ρ : Nat → Nat) : Prop := ∀ r, r < m → ∃ b, b < nb M s (rwc M s r) ∧ mI M (s + 36) (tg M s (bg M s (rwc M s r) + b)) ≠ 0 ∧ ρ (tg M s (bg M s (rwc M s r) + b)) < ρ (uu M s r)
section SY
variable {M : mM} {s m : Nat}
theorem Enu.pick (hE : Enu M s m) {k : Nat} (hk : (k : Int) < mI M s 1) (g : Nat → Rat) : sr (fun j => (isU M s j k : Rat) * g j) m = eU M s g k := by
  have z0 : ((0 : Int) : Rat) = 0 := rfl
  have z1 : ((1 : Int) : Rat) = 1 := rfl
  unfold eU
  by_cases q : mI M (s + 36) k ≠ 0 ∧ mI M (s + 22) k ≠ 3
  · rw [if_pos q]
    obtain ⟨r1, r2, r3⟩ := hE.2.1 k hk q
    rw [sr_congr (g := fun j => if (mI M (s + 40) k).toNat = j then 1 * g j else 0) m (fun j hj => ?_), sr_pick, if_pos (by omega)]
    · grind
    · unfold isU
      by_cases y : (mI M (s + 40) k).toNat = j
      · rw [if_pos y, if_pos (by unfold uu; rw [← y]; omega), z1]
      · rw [if_neg y, if_neg (fun z => y (by
          have w := (hE.1 j hj).2.2.2
          rw [← z] at w
          omega)), z0]
        grind
  · rw [if_neg q]
    rw [sr_congr (g := fun j => 0 * (fun _ => 0) j) m (fun j hj => ?_), sr_mul]
    · grind
    · unfold isU
      rw [if_neg (fun z => q (by
        have w := (hE.1 j hj).2.2.1
        rw [← z] at w
        exact w)), z0]
      grind
theorem Enu.cmd (hE : Enu M s m) (hG : GW M s) {i : Nat} (hi : i < m) : (uu M s i : Int) < mI M s 1 ∧ (rwc M s i : Int) < mI M s 2 ∧ (pl M s (uu M s i) : Int) < mny M s (uu M s i) ∧ (pl M s (uu M s i) : Int) = mI M (s + 35) (uu M s i) := by
  obtain ⟨u1, u2, u3, u4⟩ := hE.1 i hi
  have u5 := hE.2.2.1 i hi
  have huu : (uu M s i : Int) = mI M (s + 39) i := by unfold uu; omega
  have hc := hG.cmd (i := uu M s i) (by omega)
  have hi' := u5.2
  unfold mny at hi' ⊢
  have hcx : (rwc M s i : Int) = mI M (s + 23) (uu M s i) + mI M (s + 35) (uu M s i) := by unfold rwc cx pl; omega
  unfold pl
  omega
theorem tg_lt (hG : GW M s) {c b : Nat} (hc : (c : Int) < mI M s 2) (hb : b < nb M s c) : (tg M s (bg M s c + b) : Int) < mI M s 1 := by
  have h := hG.brn hc
  have ht := hG.2.2.2.2.2.2.2.2.2.2 (bg M s c + b) (by unfold bg nb at *; omega)
  unfold tg
  omega
/-- a row, as a sum over branches -/
theorem rowp_sum (hE : Enu M s m) (hG : GW M s) {i : Nat} (hi : i < m) (g : Nat → Rat) : sr (fun j => rowp M s m i j * g j) m = cw M s (rwc M s i) (eU M s g) := by
  have hc := (hE.cmd hG hi).2.1
  rw [sr_congr (g := fun j => cw M s (rwc M s i) (fun k => (isU M s j k : Rat) * g j)) m (fun j hj => ?_), cw_sr]
  · refine cw_congr (fun b hb => ?_)
    exact hE.pick (tg_lt hG hc hb) g
  · unfold rowp
    rw [if_neg (by omega), Rat.mul_comm, ← cw_mul]
    exact cw_congr (fun b hb => by grind)
theorem rowp_m {i : Nat} : rowp M s m i m = cw M s (rwc M s i) (fun k => (isT M s k : Rat)) := by
  unfold rowp
  rw [if_pos rfl]
theorem rowp_nn (hE : Enu M s m) (hG : GW M s) (hC : GB M s) {i j : Nat} (hi : i < m) : 0 ≤ rowp M s m i j := by
  have hc := (hE.cmd hG hi).2.1
  unfold rowp cw
  refine sr_nonneg _ (fun b hb => Rat.mul_nonneg (Rat.le_of_lt (hC.chq_pos hc hb)) ?_)
  by_cases q : j = m
  · rw [if_pos q]
    show (0 : Rat) ≤ ((isT M s (tg M s (bg M s (rwc M s i) + b)) : Int) : Rat)
    rcases isT_01 (M := M) (s := s) (k := tg M s (bg M s (rwc M s i) + b)) with w | w <;> rw [w] <;> decide
  · rw [if_neg q]
    show (0 : Rat) ≤ ((isU M s j (tg M s (bg M s (rwc M s i) + b)) : Int) : Rat)
    rcases isU_01 (M := M) (s := s) (j := j) (k := tg M s (bg M s (rwc M s i) + b)) with w | w <;> rw [w] <;> decide
theorem rowp_le (hE : Enu M s m) (hG : GW M s) (hC : GB M s) {i : Nat} (hi : i < m) : sr (rowp M s m i) (m + 1) ≤ 1 := by
  have hc := (hE.cmd hG hi).2.1
  have e1 : sr (rowp M s m i) m = cw M s (rwc M s i) (eU M s (fun _ => 1)) := by
    rw [← rowp_sum hE hG hi]
    exact sr_congr m (fun j hj => by grind)
  rw [sr, e1, rowp_m, ← cw_add]
  have a := cw_le hC hc (f := fun k => eU M s (fun _ => 1) k + (isT M s k : Rat)) (g := fun _ => 1) (fun b hb => by
    unfold eU isT
    by_cases q : mI M (s + 22) (tg M s (bg M s (rwc M s i) + b)) = 3
    · rw [if_neg (fun w => w.2 q), if_pos q, show ((1 : Int) : Rat) = 1 from rfl]; grind
    · rw [if_neg q, show ((0 : Int) : Rat) = 0 from rfl]
      split
      · show (1 : Rat) + 0 ≤ 1; grind
      · grind)
  rw [cw_one hC hc] at a
  exact a
theorem chq_ge (hC : GB M s) {c b : Nat} (hc : (c : Int) < mI M s 2) (hb : b < nb M s c) : ((1000000000 : Int) : Rat)⁻¹ ≤ chq M s (bg M s c + b) := by
  obtain ⟨u0, u1, u2⟩ := (hC c hc).2.1 b hb
  have h1 := (hC c hc).1
  have u3 : mI M (s + 28) (bg M s c + b) ≤ mI M (s + 24) c := Int.le_of_dvd (by omega) u2
  unfold chq
  have p1 : (0 : Rat) < (mI M (s + 28) (bg M s c + b) : Rat) := Rat.intCast_pos.2 u1
  have q1 := Rat.mul_inv_cancel _ (ic_ne u1)
  have q2 := Rat.mul_inv_cancel _ (ic_ne (x := 1000000000) (by omega))
  have i1 : (0 : Rat) < (mI M (s + 28) (bg M s c + b) : Rat)⁻¹ := Rat.inv_pos.2 p1
  have i2 : (0 : Rat) < ((1000000000 : Int) : Rat)⁻¹ := Rat.inv_pos.2 (Rat.intCast_pos.2 (by omega))
  have k1 : (1 : Rat) ≤ (mI M (s + 27) (bg M s c + b) : Rat) := by
    have : ((1 : Int) : Rat) ≤ (mI M (s + 27) (bg M s c + b) : Rat) := ic_mono (by omega)
    exact this
  have k2 : (mI M (s + 28) (bg M s c + b) : Rat) ≤ ((1000000000 : Int) : Rat) := ic_mono (by omega)
  generalize ((1000000000 : Int) : Rat) = Z at *
  generalize (mI M (s + 28) (bg M s c + b) : Rat) = v at *
  generalize (mI M (s + 27) (bg M s c + b) : Rat) = y at *
  have a := Rat.mul_nonneg (a := (Z - v) * Z⁻¹) (b := v⁻¹) (Rat.mul_nonneg (by grind) (Rat.le_of_lt i2)) (Rat.le_of_lt i1)
  have b := Rat.mul_nonneg (a := y - 1) (b := v⁻¹) (by grind) (Rat.le_of_lt i1)
  generalize Z⁻¹ = z at *
  generalize v⁻¹ = w at *
  have e : (Z - v) * z * w = (Z * z) * w - (v * w) * z := by grind
  rw [q1, q2] at e
  grind
theorem rowp_sy {ρ : Nat → Nat} {w : Nat → Int} (hE : Enu M s m) (hG : GW M s) (hC : GB M s) (hL : Lds M s m ρ) (hw : ∀ r, r < m → 0 ≤ w r ∧ 2 * rowD M s r ≤ 2 ^ (w r).toNat) (hw2 : sm w m ≤ 480) : Sy m (rowp M s m) (rowN M s m) (rowD M s) := by
  have hint : ∀ r c, r < m → c ≤ m → (rowD M s r : Rat) * rowp M s m r c = (rowN M s m r c : Rat) := fun r c hr _ => by
    have hc := (hE.cmd hG hr).2.1
    unfold rowD rowp rowN
    exact cw_int hC hc
  have hD1 : ∀ r, r < m → 1 ≤ rowD M s r ∧ rowD M s r < 1000000000 := fun r hr => by
    have h := (hC _ (hE.cmd hG hr).2.1).1
    unfold rowD
    omega
  obtain ⟨h, g⟩ : ∃ h, gok m 0 (rowp M s m) h := by
    have hu : (0 : Rat) < ((1000000000 : Int) : Rat)⁻¹ := Rat.inv_pos.2 (Rat.intCast_pos.2 (by omega))
    have hu1 : ((1000000000 : Int) : Rat)⁻¹ ≤ 1 := by
      have q2 := Rat.mul_inv_cancel _ (ic_ne (x := 1000000000) (by omega))
      have k : (1 : Rat) ≤ ((1000000000 : Int) : Rat) := by decide
      generalize ((1000000000 : Int) : Rat) = Z at *
      have a := Rat.mul_nonneg (a := Z - 1) (b := Z⁻¹) (by grind) (Rat.le_of_lt hu)
      grind
    refine cert (ρ := fun r => ρ (uu M s r)) hu hu1 (fun i j hi hj => rowp_nn hE hG hC hi) (fun i hi => rowp_le hE hG hC hi) (fun i hi => ?_)
    obtain ⟨b, hb, hb1, hb2⟩ := hL i hi
    have hc := (hE.cmd hG hi).2.1
    have hge := chq_ge hC hc hb
    have htl := tg_lt hG hc hb
    have hone : ∀ f : Nat → Int, (∀ k, f k = 0 ∨ f k = 1) → f (tg M s (bg M s (rwc M s i) + b)) = 1 → ((1000000000 : Int) : Rat)⁻¹ ≤ cw M s (rwc M s i) (fun k => (f k : Rat)) := fun f hf h1 => by
      have a := sr_one (f := fun b => chq M s (bg M s (rwc M s i) + b) * (f (tg M s (bg M s (rwc M s i) + b)) : Rat)) (nb M s (rwc M s i)) hb (fun j hj => Rat.mul_nonneg (Rat.le_of_lt (hC.chq_pos hc hj)) (by
        rcases hf (tg M s (bg M s (rwc M s i) + j)) with q | q <;> rw [q] <;> decide))
      have a1 : chq M s (bg M s (rwc M s i) + b) * (f (tg M s (bg M s (rwc M s i) + b)) : Rat) ≤ cw M s (rwc M s i) (fun k => (f k : Rat)) := a
      rw [h1] at a1
      have z1 : ((1 : Int) : Rat) = 1 := rfl
      rw [z1] at a1
      grind
    by_cases q : mI M (s + 22) (tg M s (bg M s (rwc M s i) + b)) = 3
    · left
      have a := hone (isT M s) (fun k => isT_01) (if_pos q)
      rw [← rowp_m (m := m)] at a
      have b := rowp_le hE hG hC hi
      rw [sr] at b
      grind
    · right
      obtain ⟨r1, r2, r3⟩ := hE.2.1 _ htl ⟨hb1, q⟩
      have euj : uu M s (mI M (s + 40) (tg M s (bg M s (rwc M s i) + b))).toNat = tg M s (bg M s (rwc M s i) + b) := by unfold uu; omega
      refine ⟨(mI M (s + 40) (tg M s (bg M s (rwc M s i) + b))).toNat, by omega, by rw [euj]; exact hb2, ?_⟩
      have a := hone (isU M s (mI M (s + 40) (tg M s (bg M s (rwc M s i) + b))).toNat) (fun k => isU_01) (if_pos euj.symm)
      unfold rowp
      rw [if_neg (by omega)]
      exact a
  refine ⟨⟨h, g⟩, hint, fun r hr => by have := hD1 r hr; omega, fun i k hi hk => ?_⟩
  have hp := det_pos g hint (fun r hr => by have := hD1 r hr; omega) k hk
  have hN : ∀ r c, r < m → c ≤ m → 0 ≤ rowN M s m r c := fun r c hr hc => by
    have a : (0 : Rat) ≤ (rowN M s m r c : Rat) := by
      rw [← hint r c hr hc]
      exact Rat.mul_nonneg (Rat.le_of_lt (Rat.intCast_pos.2 (by have := hD1 r hr; omega))) (rowp_nn hE hG hC hr)
    exact ic_le (by have : ((0 : Int) : Rat) = 0 := rfl; rw [this]; exact a)
  have hs := det_small (k := k) (N := rowN M s m) (D := rowD M s) (fun r c hr hc => hN r c (by omega) (by omega)) (fun r hr => by
    refine ⟨by have := hD1 r (by omega); omega, ?_⟩
    refine ic_le ?_
    have e1 : ((sm (fun c => rowN M s m r c) k : Int) : Rat) = (rowD M s r : Rat) * sr (rowp M s m r) k := by
      rw [sm_cast, ← sr_mul]
      exact sr_congr k (fun c hc => (hint r c (by omega) (by omega)).symm)
    rw [e1]
    have a := rowp_le hE hG hC (i := r) (by omega)
    have b := sr_part (f := rowp M s m r) (a := k) (m + 1 - k) (fun c hc => rowp_nn hE hG hC (by omega))
    rw [show k + (m + 1 - k) = m + 1 by omega] at b
    have c := Rat.mul_nonneg (a := (rowD M s r : Rat)) (b := 1 - sr (rowp M s m r) k) (Rat.le_of_lt (Rat.intCast_pos.2 (by have := hD1 r (by omega); omega))) (by grind)
    grind)
  have hpw := pr_pow (f := fun r => 2 * rowD M s r) (w := w) k (fun r hr => ⟨by have := hD1 r (by omega); omega, (hw r (by omega)).2, (hw r (by omega)).1⟩)
  have hsp := sm_part (f := w) (a := k) (m - k) (fun c hc => (hw c (by omega)).1)
  rw [show k + (m - k) = m by omega] at hsp
  have h480 : (2 : Int) ^ (sm w k).toNat ≤ 2 ^ 480 := two_pow_le (by omega)
  have hdi := hD1 i hi
  have hfin : rowD M s i * det k (bm (rowN M s m) (rowD M s)) ≤ 1000000000 * 2 ^ 480 := Int.mul_le_mul (by omega) (by omega) (by omega) (by omega)
  have := p510
  have := p480
  exact ⟨by omega, by omega⟩
end SY
