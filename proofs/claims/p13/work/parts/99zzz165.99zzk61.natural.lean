/-! The class's natural numbers: places, values, small steps. -/
section NAA
variable {G : mG} {d a b Y Cy s n X Cx t : Nat} {M M' M1 M2 : mM}
/-- the value of k limbs of thirty bits -/
def dn (f : Nat → Int) : Nat → Int
  | 0 => 0
  | k + 1 => dn f k + f k * 2 ^ (30 * k)
theorem dn_cg {f g : Nat → Int} : ∀ k, (∀ j, j < k → f j = g j) → dn f k = dn g k
  | 0, _ => rfl
  | k + 1, h => by
    show dn f k + f k * 2 ^ (30 * k) = dn g k + g k * 2 ^ (30 * k)
    rw [dn_cg k (fun j hj => h j (by omega)), h k (by omega)]
/-- a number's places: Y its limbs, of Cy places -/
def Nl (M : mM) (a Y Cy : Nat) : Prop := mK M a = 10 ∧ mR M a 0 = Y ∧ mK M Y = 30 ∧ mN M Y = Cy ∧ (4 ≤ Cy ∧ Cy ≤ 100000) ∧ a ≠ Y ∧ (a < mZ M ∧ Y < mZ M)
/-- limbs that are limbs -/
def lim (M : mM) (Y n : Nat) : Prop := ∀ j, j < n → 0 ≤ mI M Y j ∧ mI M Y j < 1073741824
/-- a number of s limbs -/
def Nt (M : mM) (a Y Cy s : Nat) : Prop := Nl M a Y Cy ∧ mI M a 1 = ((s : Nat) : Int) ∧ s ≤ Cy ∧ lim M Y s ∧ (0 < s → mI M Y (s - 1) ≠ 0)
theorem Nl.fi {S : Nat → Prop} (h : Nl M a Y Cy) (f : FI S M M') : Nl M' a Y Cy := by
  obtain ⟨f1, f2, f3, -, f5, -⟩ := f
  unfold Nl at h ⊢
  rw [f1, f2, f3, f5]
  exact h
theorem s_Na_trim (hO : mOk M) (h : Nl M a Y Cy) (hn : n ≤ Cy) (hl : lim M Y n) : Cv G y_Na_trim d [vr a, vi n] M (fun M' => mOk M' ∧ FI (fun x => x = a) M M' ∧ (∀ i, i ≠ 1 → mI M' a i = mI M a i) ∧ ∃ s, s ≤ n ∧ Nt M' a Y Cy s ∧ dn (mI M' Y) s = dn (mI M Y) n) := by
  obtain ⟨k0, r0, kY, nY, ⟨c1, c2⟩, ne, z1, z2⟩ := id h
  refine k_Na_trim hO ⟨by omega, by omega⟩ ⟨k0, fun M2 e2 => ?_⟩
  have f2 : FI (fun x => x = a) M M2 := by rw [e2]; exact FI.ui rfl
  suffices HH : ∀ (t : Nat) (M1 : mM), t ≤ n → mOk M1 → FI (fun x => x = a) M M1 → (∀ i, i ≠ 1 → mI M1 a i = mI M a i) → mI M1 a 1 = ((t : Nat) : Int) → dn (mI M Y) t = dn (mI M Y) n → h_Na_trim_5 G d a M1 (fun M' => mOk M' ∧ FI (fun x => x = a) M M' ∧ (∀ i, i ≠ 1 → mI M' a i = mI M a i) ∧ ∃ s, s ≤ n ∧ Nt M' a Y Cy s ∧ dn (mI M' Y) s = dn (mI M Y) n) from HH n M2 (Nat.le_refl _) (by rw [e2]; exact mOk_UI hO ⟨by omega, by omega⟩) f2 (fun i hi => by rw [mI_ui a i e2, if_neg (fun u => hi u.2)]) (by rw [mI_ui a 1 e2, if_pos ⟨rfl, rfl⟩]) rfl
  intro t
  induction t with
  | zero =>
    intro M1 ht o f hi h1 hd
    have nb := f.2.2.2.2.2.2 Y (fun u => ne u.symm)
    refine k_Na_trim_5 o ⟨by rw [f.1]; exact k0, fun y => absurd y (by omega), fun _ => ⟨o, f, hi, 0, by omega, ⟨h.fi f, h1, by omega, fun j hj => absurd hj (by omega), fun u => absurd u (by omega)⟩, hd⟩, fun y => absurd (Or.inl (by omega)) y⟩
  | succ t ih =>
    intro M1 ht o f hi h1 hd
    have nb := f.2.2.2.2.2.2 Y (fun u => ne u.symm)
    refine k_Na_trim_5 o ?_
    rw [f.1, f.2.1, f.2.2.1, r0, nY, h1, show Int.toNat (((t + 1 : Nat) : Int) - 1) = t by omega, nb]
    refine ⟨k0, fun _ => ⟨kY, by omega⟩, fun y => ⟨o, f, hi, t + 1, ht, ⟨h.fi f, h1, by omega, fun j hj => by rw [nb]; exact hl j (by omega), fun _ => ?_⟩, hd⟩, fun y => ⟨⟨by omega, by omega⟩, fun M14 e14 => ?_⟩⟩
    · rw [nb, show t + 1 - 1 = t by omega]
      rcases y with y | y
      · omega
      · exact y
    · have y0 : mI M Y t = 0 := Classical.byContradiction (fun u => y (Or.inr u))
      have f14 : FI (fun x => x = a) M1 M14 := by rw [e14]; exact FI.ui rfl
      refine ih M14 (by omega) (by rw [e14]; exact mOk_UI o ⟨by omega, by omega⟩) (f.trans f14) (fun i hi' => by rw [mI_ui a i e14, if_neg (fun u => hi' u.2)]; exact hi i hi') (by rw [mI_ui a 1 e14, if_pos ⟨rfl, rfl⟩]; omega) ?_
      rw [← hd]
      show dn (mI M Y) t = dn (mI M Y) t + mI M Y t * 2 ^ (30 * t)
      rw [y0, Int.zero_mul, Int.add_zero]
/-- room for w limbs -/
theorem s_Na_reserve {w : Nat} (hO : mOk M) (h : Nl M a Y Cy) (hw : w ≤ 50000) (hC : Cy ≤ 50000) : Cv G y_Na_reserve (d + 2) [vr a, vi w] M (fun M' => mOk M' ∧ ∃ Y' Cy', Nl M' a Y' Cy' ∧ w ≤ Cy' ∧ Cy ≤ Cy' ∧ FA (fun _ => False) (fun x => x = a) M M' ∧ (∀ i, i ≠ 0 → mR M' a i = mR M a i) ∧ (∀ j, j < Cy → mI M' Y' j = mI M Y j) ∧ ((Y' = Y ∧ Cy' = Cy ∧ M' = M) ∨ (Y' = mZ M ∧ mZ M' = mZ M + 1 ∧ mS M' = mS M + Cy' ∧ 2 * Cy ≤ Cy' ∧ Cy' ≤ 2 * w))) := by
  obtain ⟨k0, r0, kY, nY, ⟨c1, c2⟩, ne, z1, z2⟩ := id h
  refine k_Na_reserve hO ⟨by omega, by omega⟩ ?_
  rw [r0, nY]
  refine ⟨k0, kY, ⟨by omega, by omega⟩, fun y => ⟨hO, Y, Cy, h, by omega, Nat.le_refl _, FA.refl, fun _ _ => rfl, fun _ _ => rfl, Or.inl ⟨rfl, rfl, rfl⟩⟩, fun y => ⟨⟨by omega, by omega⟩, ?_⟩⟩
  obtain ⟨l, el, l1, l2, l3⟩ : ∃ l : Nat, (if ((w : Nat) : Int) < 2 * ((Cy : Nat) : Int) then 2 * ((Cy : Nat) : Int) else ((w : Nat) : Int)) = ((l : Nat) : Int) ∧ 2 * Cy ≤ l ∧ w ≤ l ∧ l ≤ 2 * w := by
    by_cases u : ((w : Nat) : Int) < 2 * ((Cy : Nat) : Int)
    · exact ⟨2 * Cy, by rw [if_pos u]; omega, by omega, by omega, by omega⟩
    · exact ⟨w, by rw [if_neg u], by omega, by omega, by omega⟩
  rw [el]
  refine (s_JA_copyOf hO kY z2 (by omega) (by omega)).mono (fun x M9 q => ?_)
  obtain ⟨ex, o9, f9, Z9, S9, K9, N9, I9⟩ := q
  subst ex
  rw [nY] at I9
  refine ⟨o9, by rw [(f9.2 a z1).1]; exact k0, fun M15 e15 => ?_⟩
  have F15 : FA (fun _ => False) (fun x => x = a) M M15 := (f9.mono (fun _ _ y => y) (fun _ _ y => y.elim)).trans (FA.ur rfl e15)
  have Z15 : mZ M15 = mZ M + 1 := by rw [e15]; exact Z9
  refine ⟨by rw [e15]; exact mOk_UR o9, mZ M, l, ⟨by rw [(F15.2 a z1).1]; exact k0, by rw [e15, mR_UR, if_pos ⟨rfl, rfl⟩], by rw [e15]; exact K9, by rw [e15]; exact N9, ⟨by omega, by omega⟩, by omega, by omega, by omega⟩, l2, by omega, F15, fun i hi => by rw [e15, mR_UR, if_neg (fun u => hi u.2), (f9.2 a z1).2.2.2.1 (fun q => q)], fun j hj => by rw [e15, mI_UR]; exact I9 j hj, Or.inr ⟨rfl, Z15, by rw [e15, mS_UR]; exact S9, l1, l3⟩⟩
theorem s_Na_put0 {x : Int} (hx : 0 ≤ x ∧ x < 1073741824) (hO : mOk M) (h : Nl M a Y Cy) : Cv G y_Na_put0 d [vr a, vi x] M (fun M' => mOk M' ∧ FI (fun y => y = a ∨ y = Y) M M' ∧ ∃ s, s ≤ 1 ∧ Nt M' a Y Cy s ∧ dn (mI M' Y) s = x) := by
  obtain ⟨k0, r0, kY, nY, ⟨c1, c2⟩, ne, z1, z2⟩ := id h
  refine k_Na_put0 hO ⟨by omega, by omega⟩ ?_
  rw [r0, nY]
  refine ⟨k0, kY, ⟨by omega, by omega⟩, fun M4 e4 v7 e7 M12 e12 => ?_⟩
  have f4 : FI (fun y => y = Y) M M4 := by rw [e4]; exact FI.ui rfl
  have f12 : FI (fun y => y = a) M4 M12 := by rw [e12]; exact FI.ui rfl
  have ff : FI (fun y => y = a ∨ y = Y) M M12 := (f4.mono (fun _ y => Or.inr y)).trans (f12.mono (fun _ y => Or.inl y))
  have b7 : v7 = 0 ∨ v7 = 1 := by rw [e7]; split <;> omega
  have y12 : mI M12 Y 0 = x := by rw [f12.2.2.2.2.2.2 Y (fun u => ne u.symm), mI_ui Y 0 e4, if_pos ⟨rfl, rfl⟩]
  have a12 : mI M12 a 1 = v7 := by rw [mI_ui a 1 e12, if_pos ⟨rfl, rfl⟩]
  refine ⟨by rw [e12]; exact mOk_UI (by rw [e4]; exact mOk_UI hO ⟨by omega, by omega⟩) (m_b32 b7), ff, ?_⟩
  by_cases y : x = 0
  · rw [if_pos y] at e7
    exact ⟨0, by omega, ⟨h.fi ff, by rw [a12, e7]; rfl, by omega, fun j hj => absurd hj (by omega), fun u => absurd u (by omega)⟩, y.symm⟩
  · rw [if_neg y] at e7
    refine ⟨1, Nat.le_refl _, ⟨h.fi ff, by rw [a12, e7]; rfl, by omega, fun j hj => ?_, fun _ => by rw [show 1 - 1 = 0 by omega, y12]; exact y⟩, ?_⟩
    · rw [show j = 0 by omega, y12]
      exact hx
    · show 0 + mI M12 Y 0 * 2 ^ (30 * 0) = x
      rw [y12]
      simp
end NAA
