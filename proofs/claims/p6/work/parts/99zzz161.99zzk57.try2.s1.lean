section
/-! The class's game: questions. -/
section GAL
variable {G : mG} {d g c cn k cc bc : Nat} {M M' : mM}
theorem s_Ga_hasState {l : Int} (il : i32 l) (h1 : mOk M) (hk : mK M g = 7) (hc : mI M g 0 = ((cn : Nat) : Int)) : Ci G y_Ga_hasState d [vr g, vi l] M (fun r M' => M' = M ∧ (r = 0 ∨ r = 1) ∧ (r ≠ 0 ↔ (0 ≤ l ∧ l < cn))) := by
  refine k_Ga_hasState h1 il ⟨fun _ => hk, fun v4 e4 => ⟨rfl, ?_⟩⟩
  rw [hc] at e4
  by_cases y : l < 0 ∨ ((cn : Nat) : Int) ≤ l
  · rw [if_pos y] at e4
    rw [e4]
    exact ⟨Or.inl rfl, ⟨fun t => absurd rfl t, fun t => by omega⟩⟩
  · rw [if_neg y] at e4
    rw [e4]
    exact ⟨Or.inr rfl, ⟨fun _ => by omega, fun _ => by decide⟩⟩
/-- the game at rest: no states, or all of them -/
def GR (M : mM) (g cn cc bc : Nat) : Prop := (cn = 0 ∧ mI M g 0 = 0) ∨ (1 ≤ cn ∧ GQ M g cn (cn - 1) cc bc)
theorem s_Ga_commandAt {l1 l2 : Int} (i1 : i32 l1) (i2 : i32 l2) (h1 : mOk M) (hk : GK M g) (hr : GR M g cn cc bc) : Ci G y_Ga_commandAt (d + 1) [vr g, vi l1, vi l2] M (fun r M' => M' = M ∧ i32 r ∧ (r = -1 ∨ (0 ≤ r ∧ r < cc ∧ 1 ≤ cn))) := by
  obtain ⟨g0, ⟨-, -, -, g4, -⟩, ⟨-, -, -, k4, -⟩, ⟨-, -, -, n4, -⟩⟩ := id hk
  have hc : mI M g 0 = ((cn : Nat) : Int) := by
    rcases hr with ⟨e1, e2⟩ | ⟨-, q⟩
    · rw [e1]; exact e2
    · exact q.1.1
  refine k_Ga_commandAt h1 i1 i2 ⟨g0, (s_Ga_hasState i1 h1 g0 hc).mono (fun x3 M2 q => ?_)⟩
  obtain ⟨e2, hx, hiff⟩ := q
  subst e2
  have rows : x3 ≠ 0 → ∃ a b : Nat, mI M2 (g + 4) l1.toNat = ((a : Nat) : Int) ∧ mI M2 (g + 4) (l1 + 1).toNat = ((b : Nat) : Int) ∧ a ≤ b ∧ b ≤ cc ∧ cc ≤ 4096 ∧ 0 ≤ l1 ∧ l1 < 512 ∧ 1 ≤ cn := fun y => by
    have b := hiff.mp y
    rcases hr with ⟨e1, -⟩ | ⟨c1, q⟩
    · omega
    · obtain ⟨⟨-, q2, -⟩, -, -, t1, t2, -, -, -, t6, -⟩ := q
      obtain ⟨x, y', f1, f2, f3, f4⟩ := t6 l1.toNat (by omega)
      exact ⟨x, y', f1, by rw [show (l1 + 1).toNat = l1.toNat + 1 by omega]; exact f2, f3, f4, by omega, b.1, by omega, c1⟩
  clear hr hiff
  rw [g4, n4]
  refine ⟨m_b32 hx, h1, fun y _ => ?_, fun _ => ⟨rfl, ⟨by decide, by decide⟩, Or.inl rfl⟩, fun y => ?_⟩
  · obtain ⟨a, b, f1, f2, f3, f4, f5, f6, f7, f8⟩ := rows y
    rw [f1, f2]
    exact ⟨g0, k4, by omega, by omega, ⟨by omega, by omega⟩⟩
  · have y0 : x3 ≠ 0 := fun t => y (Or.inl t)
    obtain ⟨a, b, f1, f2, f3, f4, f5, f6, f7, f8⟩ := rows y0
    have y1 : 0 ≤ l2 := by
      by_cases t : l2 < 0
      · exact absurd (Or.inr (Or.inl t)) y
      · omega
    have y2 : l2 < mI M2 (g + 4) (Int.toNat (l1 + 1)) - mI M2 (g + 4) (Int.toNat l1) := Classical.byContradiction (fun t => y (Or.inr (Or.inr t)))
    rw [f1, f2] at y2
    rw [f1]
    exact ⟨g0, k4, by omega, rfl, ⟨by omega, by omega⟩, Or.inr ⟨by omega, by omega, f8⟩⟩
theorem s_Ga_drawn {l2 : Int} (i2 : i32 l2) (h1 : mOk M) (hk : GK M g) (hc : c < cc) (hcc : cc ≤ bc) (hbc : bc ≤ 4096) (hcn : cn ≤ 512) (hm : cmdG M g cn bc c) : Ci G y_Ga_drawn d [vr g, vi c, vi l2] M (fun r M' => M' = M ∧ i32 r ∧ (r = -1 ∨ (0 ≤ r ∧ r < cn))) := by
  obtain ⟨g0, ⟨-, -, -, -, -, g6, g7, g8, g9, -⟩, ⟨-, -, -, -, -, k6, k7, k8, k9, -⟩, ⟨-, -, -, -, -, n6, n7, n8, n9, -⟩⟩ := id hk
  obtain ⟨x, y, mu, e1, e2, e3, e4, e5, e6, e7, e8, e9, -⟩ := hm
  have wl : ∀ i, x ≤ i → i < y → mI M (g + 9) i < 1000000000 := fun i a b => by
    have := wsm_le (M := M) (g := g) (x := x) (n := y - x) (fun i a b => (e5 i a (by omega)).2.2) (y - x) (Nat.le_refl _) i a (by omega)
    rw [e9] at this
    omega
  refine k_Ga_drawn h1 (i32s (by omega) (by omega)) i2 ?_
  rw [g6, n6, g7, n7, Int.toNat_natCast, e6, e1]
  refine ⟨g0, k6, by omega, k7, by omega, ?_⟩
  have b3 : i64 (l2 * ((mu : Nat) : Int)) := by
    have n1 : l2.natAbs ≤ 2147483648 := by unfold i32 at i2; omega
    have n2 : (((mu : Nat) : Int)).natAbs ≤ 1000000000 := by omega
    have := mulab n1 n2
    exact ⟨by omega, by omega⟩
  suffices HH : ∀ (t i : Nat) (j5 : Int), y ≤ i + t → x ≤ i → i ≤ y → 0 ≤ j5 → j5 ≤ ((i - x : Nat) : Int) * 1000000000 → h_Ga_drawn_22 G d g c (l2 * ((mu : Nat) : Int)) j5 i M (fun r M' => M' = M ∧ i32 r ∧ (r = -1 ∨ (0 ≤ r ∧ r < cn))) from HH (y - x) x 0 (by omega) (Nat.le_refl _) (by omega) (Int.le_refl _) (by omega)
  intro t
  induction t with
  | zero =>
    intro i j5 h2 h3 h4 h5 h6
    refine k_Ga_drawn_22 h1 (i32s (by omega) (by omega)) b3 ⟨by omega, by omega⟩ (i32s (by omega) (by omega)) ?_
    rw [g7, n7, show Int.toNat ((c : Int) + 1) = c + 1 by omega, e2]
    exact ⟨g0, k7, by omega, fun _ => ⟨rfl, ⟨by decide, by decide⟩, Or.inl rfl⟩, fun u => absurd u (by omega)⟩
  | succ t ih =>
    intro i j5 h2 h3 h4 h5 h6
    refine k_Ga_drawn_22 h1 (i32s (by omega) (by omega)) b3 ⟨by omega, by omega⟩ (i32s (by omega) (by omega)) ?_
    rw [g7, n7, show Int.toNat ((c : Int) + 1) = c + 1 by omega, e2, g8, g9, n8, n9, Int.toNat_natCast]
    refine ⟨g0, k7, by omega, fun _ => ⟨rfl, ⟨by decide, by decide⟩, Or.inl rfl⟩, fun u => ?_⟩
    have iy : i < y := by omega
    obtain ⟨w1, w2, w3⟩ := e5 i h3 iy
    have w4 := wl i h3 iy
    refine ⟨k9, by omega, fun _ => ?_, fun _ => ⟨k8, by omega, rfl, ⟨by omega, by omega⟩, Or.inr ⟨w1, w2⟩⟩⟩
    rw [show ((i : Int) + 1) = ((i + 1 : Nat) : Int) by omega]
    exact ih (i + 1) _ (by omega) (by omega) (by omega) (by omega) (by rw [show i + 1 - x = (i - x) + 1 by omega]; omega)
end GAL
end
section
/-! The class's natural numbers: places, values, small steps. -/
section NAA
variable {G : mG} {d a b Y Cy s n X Cx t : Nat} {M M' M1 M2 : mM}
/-- the value of k limbs of thirty bits -/
def dn (f : Nat → Int) : Nat → Int
  | 0 => 0
  | k + 1 => dn f k + f k * 2 ^ (30 * k)
theorem dn_cg {f g : Nat → Int} : ∀ k, (∀ j, j < k → f j = g j) → dn f k = dn g k
  | 0, _ => rfl
  | k + 1, h => by
    show dn f k + f k * 2 ^ (30 * k) = dn g k + g k * 2 ^ (30 * k)
    rw [dn_cg k (fun j hj => h j (by omega)), h k (by omega)]
/-- a number's places: Y its limbs, of Cy places -/
def Nl (M : mM) (a Y Cy : Nat) : Prop := mK M a = 10 ∧ mR M a 0 = Y ∧ mK M Y = 30 ∧ mN M Y = Cy ∧ (4 ≤ Cy ∧ Cy ≤ 100000) ∧ a ≠ Y ∧ (a < mZ M ∧ Y < mZ M)
/-- limbs that are limbs -/
def lim (M : mM) (Y n : Nat) : Prop := ∀ j, j < n → 0 ≤ mI M Y j ∧ mI M Y j < 1073741824
/-- a number of s limbs -/
def Nt (M : mM) (a Y Cy s : Nat) : Prop := Nl M a Y Cy ∧ mI M a 1 = ((s : Nat) : Int) ∧ s ≤ Cy ∧ lim M Y s ∧ (0 < s → mI M Y (s - 1) ≠ 0)
theorem Nl.fi {S : Nat → Prop} (h : Nl M a Y Cy) (f : FI S M M') : Nl M' a Y Cy := by
  obtain ⟨f1, f2, f3, -, f5, -⟩ := f
  unfold Nl at h ⊢
  rw [f1, f2, f3, f5]
  exact h
theorem s_Na_trim (hO : mOk M) (h : Nl M a Y Cy) (hn : n ≤ Cy) (hl : lim M Y n) : Cv G y_Na_trim d [vr a, vi n] M (fun M' => mOk M' ∧ FI (fun x => x = a) M M' ∧ (∀ i, i ≠ 1 → mI M' a i = mI M a i) ∧ ∃ s, s ≤ n ∧ Nt M' a Y Cy s ∧ dn (mI M' Y) s = dn (mI M Y) n) := by
  obtain ⟨k0, r0, kY, nY, ⟨c1, c2⟩, ne, z1, z2⟩ := id h
  refine k_Na_trim hO ⟨by omega, by omega⟩ ⟨k0, fun M2 e2 => ?_⟩
  have f2 : FI (fun x => x = a) M M2 := by rw [e2]; exact FI.ui rfl
  suffices HH : ∀ (t : Nat) (M1 : mM), t ≤ n → mOk M1 → FI (fun x => x = a) M M1 → (∀ i, i ≠ 1 → mI M1 a i = mI M a i) → mI M1 a 1 = ((t : Nat) : Int) → dn (mI M Y) t = dn (mI M Y) n → h_Na_trim_5 G d a M1 (fun M' => mOk M' ∧ FI (fun x => x = a) M M' ∧ (∀ i, i ≠ 1 → mI M' a i = mI M a i) ∧ ∃ s, s ≤ n ∧ Nt M' a Y Cy s ∧ dn (mI M' Y) s = dn (mI M Y) n) from HH n M2 (Nat.le_refl _) (by rw [e2]; exact mOk_UI hO ⟨by omega, by omega⟩) f2 (fun i hi => by rw [mI_ui a i e2, if_neg (fun u => hi u.2)]) (by rw [mI_ui a 1 e2, if_pos ⟨rfl, rfl⟩]) rfl
  intro t
  induction t with
  | zero =>
    intro M1 ht o f hi h1 hd
    have nb := f.2.2.2.2.2.2 Y (fun u => ne u.symm)
    refine k_Na_trim_5 o ⟨by rw [f.1]; exact k0, fun y => absurd y (by omega), fun _ => ⟨o, f, hi, 0, by omega, ⟨h.fi f, h1, by omega, fun j hj => absurd hj (by omega), fun u => absurd u (by omega)⟩, hd⟩, fun y => absurd (Or.inl (by omega)) y⟩
  | succ t ih =>
    intro M1 ht o f hi h1 hd
    have nb := f.2.2.2.2.2.2 Y (fun u => ne u.symm)
    refine k_Na_trim_5 o ?_
    rw [f.1, f.2.1, f.2.2.1, r0, nY, h1, show Int.toNat (((t + 1 : Nat) : Int) - 1) = t by omega, nb]
    refine ⟨k0, fun _ => ⟨kY, by omega⟩, fun y => ⟨o, f, hi, t + 1, ht, ⟨h.fi f, h1, by omega, fun j hj => by rw [nb]; exact hl j (by omega), fun _ => ?_⟩, hd⟩, fun y => ⟨⟨by omega, by omega⟩, fun M14 e14 => ?_⟩⟩
    · rw [nb, show t + 1 - 1 = t by omega]
      rcases y with y | y
      · omega
      · exact y
    · have y0 : mI M Y t = 0 := Classical.byContradiction (fun u => y (Or.inr u))
      have f14 : FI (fun x => x = a) M1 M14 := by rw [e14]; exact FI.ui rfl
      refine ih M14 (by omega) (by rw [e14]; exact mOk_UI o ⟨by omega, by omega⟩) (f.trans f14) (fun i hi' => by rw [mI_ui a i e14, if_neg (fun u => hi' u.2)]; exact hi i hi') (by rw [mI_ui a 1 e14, if_pos ⟨rfl, rfl⟩]; omega) ?_
      rw [← hd]
      show dn (mI M Y) t = dn (mI M Y) t + mI M Y t * 2 ^ (30 * t)
      rw [y0, Int.zero_mul, Int.add_zero]
/-- room for w limbs -/
theorem s_Na_reserve {w : Nat} (hO : mOk M) (h : Nl M a Y Cy) (hw : w ≤ 50000) (hC : Cy ≤ 50000) : Cv G y_Na_reserve (d + 2) [vr a, vi w] M (fun M' => mOk M' ∧ ∃ Y' Cy', Nl M' a Y' Cy' ∧ w ≤ Cy' ∧ Cy ≤ Cy' ∧ FA (fun _ => False) (fun x => x = a) M M' ∧ (∀ i, i ≠ 0 → mR M' a i = mR M a i) ∧ (∀ j, j < Cy → mI M' Y' j = mI M Y j) ∧ ((Y' = Y ∧ Cy' = Cy ∧ M' = M) ∨ (Y' = mZ M ∧ mZ M' = mZ M + 1 ∧ mS M' = mS M + Cy' ∧ 2 * Cy ≤ Cy' ∧ Cy' ≤ 2 * w))) := by
  obtain ⟨k0, r0, kY, nY, ⟨c1, c2⟩, ne, z1, z2⟩ := id h
  refine k_Na_reserve hO ⟨by omega, by omega⟩ ?_
  rw [r0, nY]
  refine ⟨k0, kY, ⟨by omega, by omega⟩, fun y => ⟨hO, Y, Cy, h, by omega, Nat.le_refl _, FA.refl, fun _ _ => rfl, fun _ _ => rfl, Or.inl ⟨rfl, rfl, rfl⟩⟩, fun y => ⟨⟨by omega, by omega⟩, ?_⟩⟩
  obtain ⟨l, el, l1, l2, l3⟩ : ∃ l : Nat, (if ((w : Nat) : Int) < 2 * ((Cy : Nat) : Int) then 2 * ((Cy : Nat) : Int) else ((w : Nat) : Int)) = ((l : Nat) : Int) ∧ 2 * Cy ≤ l ∧ w ≤ l ∧ l ≤ 2 * w := by
    by_cases u : ((w : Nat) : Int) < 2 * ((Cy : Nat) : Int)
    · exact ⟨2 * Cy, by rw [if_pos u]; omega, by omega, by omega, by omega⟩
    · exact ⟨w, by rw [if_neg u], by omega, by omega, by omega⟩
  rw [el]
  refine (s_JA_copyOf hO kY z2 (by omega) (by omega)).mono (fun x M9 q => ?_)
  obtain ⟨ex, o9, f9, Z9, S9, K9, N9, I9⟩ := q
  subst ex
  rw [nY] at I9
  refine ⟨o9, by rw [(f9.2 a z1).1]; exact k0, fun M15 e15 => ?_⟩
  have F15 : FA (fun _ => False) (fun x => x = a) M M15 := (f9.mono (fun _ _ y => y) (fun _ _ y => y.elim)).trans (FA.ur rfl e15)
  have Z15 : mZ M15 = mZ M + 1 := by rw [e15]; exact Z9
  refine ⟨by rw [e15]; exact mOk_UR o9, mZ M, l, ⟨by rw [(F15.2 a z1).1]; exact k0, by rw [e15, mR_UR, if_pos ⟨rfl, rfl⟩], by rw [e15]; exact K9, by rw [e15]; exact N9, ⟨by omega, by omega⟩, by omega, by omega, by omega⟩, l2, by omega, F15, fun i hi => by rw [e15, mR_UR, if_neg (fun u => hi u.2), (f9.2 a z1).2.2.2.1 (fun q => q)], fun j hj => by rw [e15, mI_UR]; exact I9 j hj, Or.inr ⟨rfl, Z15, by rw [e15, mS_UR]; exact S9, l1, l3⟩⟩
theorem s_Na_put0 {x : Int} (hx : 0 ≤ x ∧ x < 1073741824) (hO : mOk M) (h : Nl M a Y Cy) : Cv G y_Na_put0 d [vr a, vi x] M (fun M' => mOk M' ∧ FI (fun y => y = a ∨ y = Y) M M' ∧ ∃ s, s ≤ 1 ∧ Nt M' a Y Cy s ∧ dn (mI M' Y) s = x) := by
  obtain ⟨k0, r0, kY, nY, ⟨c1, c2⟩, ne, z1, z2⟩ := id h
  refine k_Na_put0 hO ⟨by omega, by omega⟩ ?_
  rw [r0, nY]
  refine ⟨k0, kY, ⟨by omega, by omega⟩, fun M4 e4 v7 e7 M12 e12 => ?_⟩
  have f4 : FI (fun y => y = Y) M M4 := by rw [e4]; exact FI.ui rfl
  have f12 : FI (fun y => y = a) M4 M12 := by rw [e12]; exact FI.ui rfl
  have ff : FI (fun y => y = a ∨ y = Y) M M12 := (f4.mono (fun _ y => Or.inr y)).trans (f12.mono (fun _ y => Or.inl y))
  have b7 : v7 = 0 ∨ v7 = 1 := by rw [e7]; split <;> omega
  have y12 : mI M12 Y 0 = x := by rw [f12.2.2.2.2.2.2 Y (fun u => ne u.symm), mI_ui Y 0 e4, if_pos ⟨rfl, rfl⟩]
  have a12 : mI M12 a 1 = v7 := by rw [mI_ui a 1 e12, if_pos ⟨rfl, rfl⟩]
  refine ⟨by rw [e12]; exact mOk_UI (by rw [e4]; exact mOk_UI hO ⟨by omega, by omega⟩) (m_b32 b7), ff, ?_⟩
  by_cases y : x = 0
  · rw [if_pos y] at e7
    exact ⟨0, by omega, ⟨h.fi ff, by rw [a12, e7]; rfl, by omega, fun j hj => absurd hj (by omega), fun u => absurd u (by omega)⟩, y.symm⟩
  · rw [if_neg y] at e7
    refine ⟨1, Nat.le_refl _, ⟨h.fi ff, by rw [a12, e7]; rfl, by omega, fun j hj => ?_, fun _ => by rw [show 1 - 1 = 0 by omega, y12]; exact y⟩, ?_⟩
    · rw [show j = 0 by omega, y12]
      exact hx
    · show 0 + mI M12 Y 0 * 2 ^ (30 * 0) = x
      rw [y12]
      simp
end NAA
end
section
/-! The class's natural numbers: questions. -/
section NAB
variable {G : mG} {d a b Y Cy s n X Cx r t : Nat} {M M' M1 M2 : mM}
theorem s_Na_isOne (hO : mOk M) (h : Nt M a Y Cy s) : Ci G y_Na_isOne d [vr a] M (fun x M' => M' = M ∧ (x = 0 ∨ x = 1)) := by
  obtain ⟨⟨k0, r0, kY, nY, ⟨c1, c2⟩, -⟩, -⟩ := h
  refine k_Na_isOne hO ?_
  rw [r0, nY]
  refine ⟨k0, fun _ => ⟨kY, ⟨by omega, by omega⟩⟩, fun v6 e6 => ⟨rfl, ?_⟩⟩
  rw [e6]
  split
  · exact Or.inr rfl
  · exact Or.inl rfl
theorem s_Na_order (hO : mOk M) (h : Nt M a Y Cy s) (k : Nt M b X Cx n) : Ci G y_Na_order d [vr a, vr b] M (fun x M' => M' = M ∧ (x = -1 ∨ x = 0 ∨ x = 1)) := by
  obtain ⟨⟨k0, r0, kY, nY, ⟨c1, c2⟩, -⟩, h1, h2, -⟩ := h
  obtain ⟨⟨l0, p0, kX, nX, ⟨e1, e2⟩, -⟩, g1, g2, -⟩ := k
  refine k_Na_order hO ?_
  rw [h1, g1]
  refine ⟨k0, l0, fun y => ?_, fun y v7 e7 => ⟨rfl, ?_⟩⟩
  · have sn : s = n := by omega
    subst sn
    suffices HH : ∀ t : Nat, t ≤ s → h_Na_order_35 G d a b (((t : Nat) : Int) - 1) M (fun x M' => M' = M ∧ (x = -1 ∨ x = 0 ∨ x = 1)) from HH s (Nat.le_refl _)
    intro t
    induction t with
    | zero =>
      intro ht
      exact k_Na_order_35 hO ⟨by omega, by omega⟩ ⟨fun _ => ⟨rfl, Or.inr (Or.inl rfl)⟩, fun y => absurd y (by omega)⟩
    | succ t ih =>
      intro ht
      refine k_Na_order_35 hO ⟨by omega, by omega⟩ ⟨fun y => absurd y (by omega), fun _ => ?_⟩
      rw [r0, p0, nY, nX, show Int.toNat (((t + 1 : Nat) : Int) - 1) = t by omega]
      refine ⟨k0, kY, by omega, l0, kX, by omega, fun _ => ?_, fun _ => ⟨by omega, by omega, fun v38 e38 => ⟨rfl, ?_⟩⟩⟩
      · rw [show ((t + 1 : Nat) : Int) - 1 + (-1) = ((t : Nat) : Int) - 1 by omega]
        exact ih (by omega)
      · rw [e38]
        split
        · exact Or.inr (Or.inr rfl)
        · exact Or.inl rfl
  · rw [e7]
    split
    · exact Or.inr (Or.inr rfl)
    · exact Or.inl rfl
end NAB
end
