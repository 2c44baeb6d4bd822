/-! The reference: the pile of values. -/
section PU
variable {G : mG} {d a : Nat} {M M1 : mM}
/-- a long of a cell that is no list -/
theorem mv_ul {x j : Nat} {v : Int} (hv : i64 v) (hO : mOk M) (h : Wd M a) (e : M1 = mUL M x j v) : Mv (fun _ => False) (fun y => y = x) M a M1 ∧ (∀ y k, mL M1 y k = if y = x ∧ k = j then v else mL M y k) ∧ mI M1 = mI M := by
  subst e
  refine ⟨⟨mOk_UL hO hv, h, ⟨Nat.le_refl _, Nat.le_refl _⟩, ⟨⟨Nat.le_refl _, fun _ z => z.elim⟩, fun _ _ => ⟨rfl, rfl⟩, fun _ _ _ => rfl, fun y _ _ _ hy => ⟨rfl, ?_⟩, fun _ z => z.elim⟩, fun q _ _ => ⟨rfl, fun _ => rfl, rfl, rfl⟩⟩, fun y k => mL_UL .., rfl⟩
  funext k
  rw [mL_UL, if_neg (fun z => hy z.1)]
abbrev vS (a : Nat) : Nat → Prop := fun x => x = a ∨ x = a + 97 ∨ x = a + 98
/-- a value has been pushed: V were there -/
def psQ (M : mM) (a V : Nat) (A B : Int) (M' : mM) : Prop := Mv (fun _ => False) (vS a) M a M' ∧ mI M' a 23 = (V + 1 : Nat) ∧ (∀ i, i ≠ 23 → mI M' a i = mI M a i) ∧ (∀ k, mL M' (a + 97) k = if k = V then A else mL M (a + 97) k) ∧ ∀ k, mL M' (a + 98) k = if k = V then B else mL M (a + 98) k
theorem s_MM_push {V : Nat} {A B : Int} (hA : i64 A) (hB : i64 B) (hO : mOk M) (h : Wd M a) (hV : mI M a 23 = (V : Int)) (hb : V < 16400) : Cv G y_MM_push d [vr a, vl A, vl B] M (fun M' => mOk M' ∧ psQ M a V A B M') := by
  refine Cv.mono (Q := psQ M a V A B) ?_ (fun M' t => ⟨t.1.1, t⟩)
  have r21 : ∀ {M3 : mM}, Wd M3 a → mR M3 a 21 = a + 97 := fun w => w.1.2.2.2.2.1.2.2.2.2.2.2.1
  have r22 : ∀ {M3 : mM}, Wd M3 a → mR M3 a 22 = a + 98 := fun w => w.1.2.2.2.2.1.2.2.2.2.2.2.2.1
  refine k_MM_push hO hA hB ?_
  rw [r21 h, hV]
  have n97 : mK M (a + 97) = 33 ∧ mN M (a + 97) = 16400 := h.1.2.2.2.2.2.2.2.1.1
  have n98 : mK M (a + 98) = 33 ∧ mN M (a + 98) = 16400 := h.1.2.2.2.2.2.2.2.1.2.1
  refine ⟨h.1.1, n97.1, by rw [n97.2]; omega, fun M2 e2 => ?_⟩
  obtain ⟨m2, l2, i2⟩ := mv_ul hA hO h e2
  rw [r22 m2.2.1, i2, hV]
  have z := h.2.2.2
  have f2 := m2.2.2.2.1.2.1 (a + 98) (by omega)
  refine ⟨f2.1.trans n98.1, by rw [f2.2, n98.2]; omega, fun M3 e3 => ?_⟩
  obtain ⟨m3, l3, i3⟩ := mv_ul hB m2.1 m2.2.1 e3
  rw [i3, i2, hV]
  refine ⟨⟨by omega, by omega⟩, fun M4 e4 => ?_⟩
  obtain ⟨m4, i4⟩ := mv_fld (v := (V : Int) + 1) ⟨by omega, by omega⟩ m3.1 m3.2.1 e4
  have o4 := m4.2.2.2.1
  have c4 : ∀ x, x < mZ M3 → x ≠ a → mL M4 x = mL M3 x := fun x hx hne => (o4.2.2.2.1 x hx (fun w => w) (fun p w => w.elim) hne).2
  have z3 := m3.2.1.2.2.2
  have no : ∀ q : Nat, False → q < mZ M := fun _ w => w.elim
  refine ⟨((m2.mono (S' := vS a) (fun _ w => w) (fun x w => Or.inr (Or.inl w)) no).trans (m3.mono (S' := vS a) (fun _ w => w) (fun x w => Or.inr (Or.inr w)) (fun _ w => w.elim))).trans (m4.mono (S' := vS a) (fun _ w => w) (fun x w => Or.inl w) (fun _ w => w.elim)), by rw [i4, if_pos rfl]; omega, fun i hi => by rw [i4, if_neg hi, i3, i2], fun k => ?_, fun k => ?_⟩
  · rw [c4 _ (by omega) (by omega), l3, if_neg (fun w => by omega), l2, Int.toNat_natCast]
    by_cases y : k = V
    · rw [if_pos ⟨rfl, y⟩, if_pos y]
    · rw [if_neg (fun w => y w.2), if_neg y]
  · rw [c4 _ (by omega) (by omega), l3, Int.toNat_natCast]
    by_cases y : k = V
    · rw [if_pos ⟨rfl, y⟩, if_pos y]
    · rw [if_neg (fun w => y w.2), l2, if_neg (fun w => by omega), if_neg y]
theorem s_MM_pushTruth {V : Nat} {t : Int} (ht : i32 t) (hO : mOk M) (h : Wd M a) (hV : mI M a 23 = (V : Int)) (hb : V < 16400) : Cv G y_MM_pushTruth (d + 1) [vr a, vi t] M (fun M' => mOk M' ∧ psQ M a V (if t = 0 then 0 else 1) 0 M') := by
  refine k_MM_pushTruth hO ht (fun v hv => ⟨h.1.1, ?_⟩)
  rw [← hv]
  refine (s_MM_push (d := d) ⟨by split at hv <;> omega, by split at hv <;> omega⟩ ⟨by omega, by omega⟩ hO h hV hb).mono (fun M' t => ⟨t.1, t⟩)
/-- the greatest common divisor -/
theorem s_MM_divisor {A B : Int} (hA : -9223372036854775807 ≤ A ∧ A ≤ 9223372036854775807) (hB : 0 < B ∧ i64 B) (hO : mOk M) : Cj G y_MM_divisor d [vl A, vl B] M (fun x M' => M' = M ∧ 1 ≤ x ∧ x ≤ B ∧ x ∣ A ∧ x ∣ B) := by
  refine k_MM_divisor hO ⟨by omega, by omega⟩ hB.2 (fun v hv => ?_)
  have cz : ∀ z : Int, (0 ≤ cmpL z 0 ↔ 0 ≤ z) ∧ (cmpL z 0 ≤ 0 ↔ z ≤ 0) := fun z => by unfold cmpL; split <;> (try split) <;> omega
  have hv' : 0 ≤ v ∧ i64 v ∧ ∀ x : Int, x ∣ v → x ∣ A := by
    by_cases q : 0 ≤ A
    · rw [if_pos ((cz A).1.2 q)] at hv
      subst hv
      exact ⟨q, ⟨by omega, by omega⟩, fun x hx => hx⟩
    · rw [if_neg (fun w => q ((cz A).1.1 w))] at hv
      subst hv
      exact ⟨by omega, ⟨by omega, by omega⟩, fun x hx => Int.dvd_neg.1 hx⟩
  suffices H : ∀ (c : Nat) (x y : Int), y ≤ c → 0 ≤ y → 0 ≤ x → 0 < x + y → i64 x → i64 y → (y = 0 → x ≤ B) → y ≤ B → (∀ z : Int, z ∣ x → z ∣ y → z ∣ A ∧ z ∣ B) → h_MM_divisor_17 G d x y M (fun x M' => M' = M ∧ 1 ≤ x ∧ x ≤ B ∧ x ∣ A ∧ x ∣ B) from
    H B.toNat v B (by omega) (by omega) hv'.1 (by omega) hv'.2.1 hB.2 (by omega) (by omega) (fun z z1 z2 => ⟨hv'.2.2 z z1, z2⟩)
  intro c
  induction c with
  | zero =>
    intro x y h1 h2 h3 h4 h5 h6 h7 h8 h9
    have y0 : y = 0 := by omega
    refine k_MM_divisor_17 hO h5 h6 ⟨fun _ => ⟨rfl, by omega, h7 y0, ?_⟩, fun q => absurd ((cz y).2.2 (by omega)) q⟩
    exact h9 x (Int.dvd_refl x) (by rw [y0]; exact Int.dvd_zero x)
  | succ c ih =>
    intro x y h1 h2 h3 h4 h5 h6 h7 h8 h9
    refine k_MM_divisor_17 hO h5 h6 ⟨fun q => ?_, fun q => ?_⟩
    · have y0 : y = 0 := by have := (cz y).2.1 q; omega
      exact ⟨rfl, by omega, h7 y0, h9 x (Int.dvd_refl x) (by rw [y0]; exact Int.dvd_zero x)⟩
    · have yp : 0 < y := by
        by_cases w : y ≤ 0
        · exact absurd ((cz y).2.2 w) q
        · omega
      have e1 : Int.tmod x y = x % y := Int.tmod_eq_emod_of_nonneg h3
      have b1 := Int.emod_nonneg x (show y ≠ 0 by omega)
      have b2 := Int.emod_lt_of_pos x yp
      refine ⟨by omega, ?_⟩
      rw [e1]
      refine ih y (x % y) (by omega) b1 (by omega) (by omega) h6 ⟨by omega, by have := h6.2; omega⟩ (fun _ => h8) (by omega) (fun z z1 z2 => h9 z ?_ z1)
      have := Int.mul_ediv_add_emod x y
      rw [← this]
      exact Int.dvd_add (Int.dvd_trans z1 (Int.dvd_mul_right y _)) z2
end PU
