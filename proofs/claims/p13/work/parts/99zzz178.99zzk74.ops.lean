/-! The family's steps. -/
section NAM
variable {G : mG} {d a b c q e Y Cy s n m X Cx w : Nat} {M M' M1 M2 M3 : mM} {v : Int} {L : List Nat} {W : Nat → Nat} {T T' : Nat → Prop}
theorem s_Na_reserveV {Y' C' : Nat} (h : Nt M a Y Cy s) (o : mOk M1) (hl : Nl M1 a Y' C') (hC : Cy ≤ C') (F : FA (fun _ => False) (fun x => x = a) M M1) (I : ∀ j, j < Cy → mI M1 Y' j = mI M Y j) (g : rsv M a Y Cy w Y' C' M1) : nst M a Y Cy w (dn (mI M Y) s) M1 ∧ Nt M1 a Y' C' s := by
  obtain ⟨hl0, h1, h2, h3, h4⟩ := h
  have z1 := hl0.2.2.2.2.2.2.1
  have t : Nt M1 a Y' C' s := ⟨hl, by rw [(F.2 a z1).2.2.2.2 (fun u => u)]; exact h1, by omega, fun j hj => by rw [I j (by omega)]; exact h3 j hj, fun u => by rw [I _ (by omega)]; exact h4 u⟩
  exact ⟨nst_rs F g FI.refl o t (dn_cg s (fun j hj => I j (by omega))), t⟩
theorem f_reserve (hO : mOk M) (hF : NF L W M) (ha : a ∈ L) (hw : w ≤ W a) : Cv G y_Na_reserve (d + 2) [vr a, vi w] M (fun M' => NC L W (fun x => x = a) M M' ∧ nv M' a = nv M a ∧ sz M' a = sz M a ∧ w ≤ cp M' a) := by
  have h := hF.nt ha
  have hc := hF.cb ha
  have hs := hF.sw ha
  refine (s_Na_reserve hO h.1 (by omega) (by omega)).mono (fun M' k => ?_)
  obtain ⟨o, Y', C', hl, k1, k2, F, -, I, g⟩ := k
  obtain ⟨n1, t1⟩ := s_Na_reserveV h o hl k2 F I g
  obtain ⟨c1, c2⟩ := hF.step ha hw n1
  exact ⟨c1, c2, t1.sz, by rw [t1.cp]; exact k1⟩
theorem f_put0 {x : Int} (hx : 0 ≤ x ∧ x < 1073741824) (hO : mOk M) (hF : NF L W M) (ha : a ∈ L) : Cv G y_Na_put0 d [vr a, vi x] M (fun M' => NC L W (fun x => x = a) M M' ∧ nv M' a = x) :=
  (s_Na_put0v (w := 0) hx hO (hF.nt ha).1).mono (fun M' k => hF.step ha (Nat.zero_le _) k)
theorem f_putLong {x : Int} (hx : 0 ≤ x ∧ x < 1152921504606846976) (hO : mOk M) (hF : NF L W M) (ha : a ∈ L) : Cv G y_Na_putLong (d + 1) [vr a, vl x] M (fun M' => NC L W (fun x => x = a) M M' ∧ nv M' a = x) :=
  (s_Na_putLong (w := 0) hx hO (hF.nt ha).1).mono (fun M' k => hF.step ha (Nat.zero_le _) k)
theorem f_put1 (hO : mOk M) (hF : NF L W M) (ha : a ∈ L) (hb : b ∈ L) (ab : a ≠ b) (hw : sz M b ≤ W a) : Cv G y_Na_put1 (d + 1) [vr a, vr b] M (fun M' => NC L W (fun x => x = a) M M' ∧ nv M' a = nv M b) := by
  have hc := hF.cb ha
  have hs := hF.sw ha
  exact (s_Na_put1 hO (hF.nt ha).1 (hF.nt hb) ab (by omega) (by omega)).mono (fun M' k => hF.step ha hw k)
theorem f_multiply {f : Int} (hf : 1 ≤ f ∧ f < 1073741824) (hO : mOk M) (hF : NF L W M) (ha : a ∈ L) (hw : sz M a + 1 ≤ W a) : Cv G y_Na_multiply (d + 2) [vr a, vi f] M (fun M' => NC L W (fun x => x = a) M M' ∧ nv M' a = f * nv M a) := by
  have hc := hF.cb ha
  exact (s_Na_multiply hf hO (hF.nt ha) (by omega)).mono (fun M' k => hF.step ha hw k)
theorem f_add {f : Int} (hf : 0 ≤ f ∧ f < 1073741824) (hO : mOk M) (hF : NF L W M) (ha : a ∈ L) (hb : b ∈ L) (ab : a ≠ b) (h1 : sz M a + 1 ≤ W a) (h2 : sz M b + 1 ≤ W a) : Cv G y_Na_add (d + 3) [vr a, vr b, vi f] M (fun M' => NC L W (fun x => x = a) M M' ∧ nv M' a = nv M a + f * nv M b) := by
  have hc := hF.cb ha
  have hs := hF.sw ha
  by_cases u : sz M a ≤ sz M b
  · exact (s_Na_add (m := sz M b) hf hO (hF.nt ha) (hF.nt hb) ab (hF.ne ha hb ab) (by omega) u (Nat.le_refl _) (Or.inr rfl) (by omega)).mono (fun M' k => hF.step ha h2 k)
  · exact (s_Na_add (m := sz M a) hf hO (hF.nt ha) (hF.nt hb) ab (hF.ne ha hb ab) (by omega) (Nat.le_refl _) (by omega) (Or.inl rfl) (by omega)).mono (fun M' k => hF.step ha h1 k)
theorem f_putProduct (hO : mOk M) (hF : NF L W M) (ha : a ∈ L) (hb : b ∈ L) (hc : c ∈ L) (ab : a ≠ b) (ac : a ≠ c) (hw : sz M b + sz M c ≤ W a) : Cv G y_Na_putProduct (d + 3) [vr a, vr b, vr c] M (fun M' => NC L W (fun x => x = a) M M' ∧ nv M' a = nv M b * nv M c) := by
  have hcb := hF.cb ha
  have hs := hF.sw ha
  exact (s_Na_putProduct hO (hF.nt ha).1 (hF.nt hb) (hF.nt hc) ab ac (hF.ne ha hb ab) (hF.ne ha hc ac) (by omega) (by omega)).mono (fun M' k => hF.step ha hw k)
theorem f_divideSmall {dv : Int} (hd : 0 < dv ∧ dv < 1073741824) (hO : mOk M) (hF : NF L W M) (ha : a ∈ L) : Ci G y_Na_divideSmall d [vr a, vi dv] M (fun x M' => NC L W (fun x => x = a) M M' ∧ (0 ≤ x ∧ x < dv) ∧ nv M a = dv * nv M' a + x) := by
  refine (s_Na_divideSmall hd hO (hF.nt ha)).mono (fun x M' k => ?_)
  obtain ⟨hx, o, F, t, T, e⟩ := k
  obtain ⟨c1, c2⟩ := hF.step (w := 0) ha (Nat.zero_le _) (nst_fi T o F rfl)
  exact ⟨c1, hx, by rw [c2]; exact e⟩
/-- order, exactly -/
theorem or_pos {x y p f g : Int} (hx : 0 ≤ x ∧ x < p) (hy : 0 ≤ y ∧ y < p) (h : g < f) : y + g * p < x + f * p := by
  have := Int.mul_le_mul_of_nonneg_right (c := p) (show g + 1 ≤ f by omega) (by omega)
  rw [Int.add_mul] at this
  omega
def orQ (u v x : Int) : Prop := (x = 0 ∧ u = v) ∨ (x = 1 ∧ v < u) ∨ (x = -1 ∧ u < v)
theorem s_Na_orderV (hO : mOk M) (h : Nt M a Y Cy s) (k : Nt M b X Cx n) : Ci G y_Na_order d [vr a, vr b] M (fun x M' => M' = M ∧ orQ (dn (mI M Y) s) (dn (mI M X) n) x) := by
  obtain ⟨⟨k0, r0, kY, nY, ⟨c1, c2⟩, -⟩, h1, h2, h3, h4⟩ := h
  obtain ⟨⟨l0, p0, kX, nX, ⟨e1, e2⟩, -⟩, g1, g2, g3, g4⟩ := k
  refine k_Na_order hO ?_
  rw [h1, g1]
  refine ⟨k0, l0, fun y => ?_, fun y v7 e7 => ⟨rfl, ?_⟩⟩
  · have sn : s = n := by omega
    subst sn
    suffices HH : ∀ t : Nat, t ≤ s → dn (mI M Y) s - dn (mI M X) s = dn (mI M Y) t - dn (mI M X) t → h_Na_order_35 G d a b (((t : Nat) : Int) - 1) M (fun x M' => M' = M ∧ orQ (dn (mI M Y) s) (dn (mI M X) s) x) from HH s (Nat.le_refl _) rfl
    intro t
    induction t with
    | zero =>
      intro ht hd
      have e1 : dn (mI M Y) 0 = 0 := rfl
      have e2 : dn (mI M X) 0 = 0 := rfl
      exact k_Na_order_35 hO ⟨by omega, by omega⟩ ⟨fun _ => ⟨rfl, Or.inl ⟨rfl, by omega⟩⟩, fun y => absurd y (by omega)⟩
    | succ t ih =>
      intro ht hd
      refine k_Na_order_35 hO ⟨by omega, by omega⟩ ⟨fun y => absurd y (by omega), fun _ => ?_⟩
      rw [r0, p0, nY, nX, show Int.toNat (((t + 1 : Nat) : Int) - 1) = t by omega]
      have y1 : 0 ≤ dn (mI M Y) t ∧ dn (mI M Y) t < 2 ^ (30 * t) := ⟨dn_nn (fun j hj => h3 j (by omega)), dn_lt (fun j hj => h3 j (by omega))⟩
      have x1 : 0 ≤ dn (mI M X) t ∧ dn (mI M X) t < 2 ^ (30 * t) := ⟨dn_nn (fun j hj => g3 j (by omega)), dn_lt (fun j hj => g3 j (by omega))⟩
      rw [dn_s, dn_s] at hd
      refine ⟨k0, kY, by omega, l0, kX, by omega, fun y => ?_, fun y => ⟨by omega, by omega, fun v38 e38 => ⟨rfl, ?_⟩⟩⟩
      · rw [show ((t + 1 : Nat) : Int) - 1 + (-1) = ((t : Nat) : Int) - 1 by omega]
        rw [y] at hd
        exact ih (by omega) (by omega)
      · rw [e38]
        by_cases c : mI M X t ≤ mI M Y t
        · rw [if_pos c]
          have := or_pos y1 x1 (show mI M X t < mI M Y t by omega)
          exact Or.inr (Or.inl ⟨rfl, by omega⟩)
        · rw [if_neg c]
          have := or_pos x1 y1 (show mI M Y t < mI M X t by omega)
          exact Or.inr (Or.inr ⟨rfl, by omega⟩)
  · have big : ∀ {f g : Nat → Int} {s n : Nat}, lms f s → lms g n → (0 < n → g (n - 1) ≠ 0) → s < n → dn f s < dn g n := by
      intro f g s n hf hg h0 hs
      obtain ⟨t, rfl⟩ : ∃ t, n = t + 1 := ⟨n - 1, by omega⟩
      have a1 := dn_lt hf
      have a2 := dn_ge hg (h0 (by omega))
      have a3 := p30m (m := s) (k := t) (by omega)
      omega
    rw [e7]
    by_cases c : ((n : Nat) : Int) ≤ ((s : Nat) : Int)
    · rw [if_pos c]
      exact Or.inr (Or.inl ⟨rfl, big g3 h3 h4 (by omega)⟩)
    · rw [if_neg c]
      exact Or.inr (Or.inr ⟨rfl, big h3 g3 g4 (by omega)⟩)
theorem f_order (hO : mOk M) (hF : NF L W M) (ha : a ∈ L) (hb : b ∈ L) : Ci G y_Na_order d [vr a, vr b] M (fun x M' => M' = M ∧ orQ (nv M a) (nv M b) x) := s_Na_orderV hO (hF.nt ha) (hF.nt hb)
end NAM
