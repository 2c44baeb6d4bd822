/-! The solver: min's best answer. -/
theorem smp_sml {x : Rat} (h : Smp 21 x) : Sml x := by
  obtain ⟨E, z, h0, h1, h2⟩ := h
  exact ⟨E, z, h0, Int.lt_of_lt_of_le h1 (pow_mono (by omega)), h2⟩
theorem smp_b {x : Rat} {k : Nat} (h : Smp k x) : x ≤ 1 ∧ -1 ≤ x := by
  obtain ⟨E, z, -, -, -, h1, h2⟩ := h
  exact ⟨h1, h2⟩
theorem smp_one : Smp 21 1 := ⟨1, 1, by omega, by decide, by grind, by grind, by grind⟩
theorem smp_zero : Smp 21 0 := ⟨1, 0, by omega, by decide, by grind, by grind, by grind⟩
theorem Sy.val {m i : Nat} {p : Nat → Nat → Rat} {N : Nat → Nat → Int} {D : Nat → Int} (h : Sy m p N D) (hi : i < m) : Smp 21 (gq p m i m) := by
  have a := h.q01 hi (k := m) (j := m) (by omega) (by omega)
  obtain ⟨⟨h', g⟩, hp, hD, hE⟩ := h
  obtain ⟨z, hz⟩ := gq_int g hp (k := m) (j := m) (by omega) (by omega) hi
  exact ⟨_, z, det_pos g hp hD m (by omega), (hE i m hi (by omega)).2, hz, a.2, by grind⟩
section MS
variable {n : Nat} {x x' : Nat → Rat} {F : Int}
theorem ms_ex (hF : Fall F) : ∀ (n : Nat), (∀ k, k < n → Smp 21 (x k) ∧ 0 ≤ x k) → ∃ t : Nat, sr x n * (F : Rat) = ((t : Int) : Rat)
  | 0, _ => ⟨0, by show (0 : Rat) * (F : Rat) = 0; grind⟩
  | n + 1, h => by
    obtain ⟨t, ht⟩ := ms_ex hF n (fun k hk => h k (by omega))
    obtain ⟨z, hz⟩ := hF.int (smp_sml (h n (by omega)).1)
    have h0 : (0 : Rat) ≤ (z : Rat) := by
      rw [← hz]
      exact Rat.mul_nonneg (h n (by omega)).2 (Rat.le_of_lt (Rat.intCast_pos.2 hF.1))
    have hz0 : 0 ≤ z := ic_le (by have : ((0 : Int) : Rat) = 0 := rfl; rw [this]; exact h0)
    refine ⟨t + z.toNat, ?_⟩
    rw [sr, show ((t + z.toNat : Nat) : Int) = (t : Int) + z by omega, Rat.intCast_add, ← ht, ← hz]
    grind
theorem ms_lt (hF : Fall F) {t t' : Nat} (h : sr x n * (F : Rat) = ((t : Int) : Rat)) (h' : sr x' n * (F : Rat) = ((t' : Int) : Rat)) (hl : sr x' n < sr x n) : t' < t := by
  have p : (0 : Rat) < (F : Rat) := Rat.intCast_pos.2 hF.1
  have a := Rat.mul_pos (a := sr x n - sr x' n) (b := (F : Rat)) (by grind) p
  have b : ((t' : Int) : Rat) < ((t : Int) : Rat) := by
    rw [← h, ← h']
    grind
  have := ic_lt.1 b
  omega
end MS
abbrev aS (s : Nat) : Nat → Prop := fun x => x = s ∨ (s + 2 ≤ x ∧ x ≤ s + 21) ∨ (s + 35 ≤ x ∧ x ≤ s + 36) ∨ (s + 39 ≤ x ∧ x ≤ s + 40) ∨ (s + 42 ≤ x ∧ x ≤ s + 61) ∨ eS s 88 x ∨ (s + 12868 ≤ x ∧ x ≤ s + 21067)
abbrev bS (s : Nat) : Nat → Prop := fun x => (s + 2 ≤ x ∧ x ≤ s + 21) ∨ x = s + 35 ∨ (s + 42 ≤ x ∧ x ≤ s + 61) ∨ eS s 88 x ∨ (s + 12868 ≤ x ∧ x ≤ s + 21067)
/-- the values that the choices σ give -/
def VL (M : mM) (s n : Nat) (A : Nat → Prop) (σ : Nat → Nat) (x : Nat → Rat) : Prop := (∀ k, k < n → Smp 21 (x k) ∧ 0 ≤ x k) ∧ (∀ k, k < n → mI M (s + 22) k = 3 → x k = 1) ∧ (∀ k, k < n → ¬ A k → mI M (s + 22) k ≠ 3 → x k = 0) ∧ (∀ k, k < n → A k → mI M (s + 22) k ≠ 3 → x k = cw M s (cx M s k (σ k)) x)
  ∧ (∀ z : Nat → Rat, (∀ k, k < n → A k → mI M (s + 22) k ≠ 3 → z k ≤ cw M s (cx M s k (σ k)) z) → (∀ k, k < n → ¬ (A k ∧ mI M (s + 22) k ≠ 3) → z k ≤ x k) → ∀ k, k < n → z k ≤ x k)
  ∧ (∀ z : Nat → Rat, (∀ k, k < n → A k → mI M (s + 22) k ≠ 3 → cw M s (cx M s k (σ k)) z ≤ z k) → (∀ k, k < n → ¬ (A k ∧ mI M (s + 22) k ≠ 3) → x k ≤ z k) → ∀ k, k < n → x k ≤ z k)
/-- the values that max's choices σ give against min's best -/
def Res (M : mM) (s n : Nat) (A : Nat → Prop) (ρ σ : Nat → Nat) (x : Nat → Rat) : Prop := (∀ k, k < n → Smp 21 (x k) ∧ 0 ≤ x k) ∧ (∀ k, k < n → mI M (s + 22) k = 3 → x k = 1) ∧ (∀ k, k < n → ¬ A k → mI M (s + 22) k ≠ 3 → x k = 0) ∧ (∀ k, k < n → A k → mI M (s + 22) k = 1 → x k = cw M s (cx M s k (σ k)) x) ∧ (∀ k, k < n → A k → mI M (s + 22) k = 2 → ∀ i : Nat, (i : Int) < mny M s k → mayP M s k i → x k ≤ cw M s (cx M s k i) x)
  ∧ Rnk M s n A ρ σ ∧ Fix M s n A σ
  ∧ (∀ z : Nat → Rat, (∀ k, k < n → A k → mI M (s + 22) k = 1 → z k ≤ cw M s (cx M s k (σ k)) z) → (∀ k, k < n → A k → mI M (s + 22) k = 2 → ∀ i : Nat, (i : Int) < mny M s k → mayP M s k i → z k ≤ cw M s (cx M s k i) z) → (∀ k, k < n → ¬ A k → z k ≤ 0) → (∀ k, k < n → mI M (s + 22) k = 3 → z k ≤ 1) → ∀ k, k < n → z k ≤ x k)
/-- what stands while min's choices are bettered -/
def AC (M : mM) (s n m : Nat) (ρ : Nat → Nat) (M3 : mM) : Prop := GW M s ∧ GB M s ∧ mI M s 1 = n ∧ m ≤ 40 ∧ LQ M s n ∧ Rnk M s n (mkd M3 s) ρ (pl M s) ∧ Fix M s n (mkd M3 s) (pl M s) ∧ PLo M s ∧ sameW M M3 s ∧ mI M3 s 24 = m ∧ (∀ r, r < m → 0 ≤ mI M3 (s + 39) r ∧ mI M3 (s + 39) r < n ∧ unk M3 s (uu M3 s r) ∧ mI M3 (s + 40) (uu M3 s r) = r) ∧ (∀ k, k < n → unk M3 s k → 0 ≤ mI M3 (s + 40) k ∧ mI M3 (s + 40) k < m ∧ mI M3 (s + 39) (mI M3 (s + 40) k).toNat = k) ∧ ∀ f : Nat → Int, sm (fun r => f (uu M3 s r)) m = sm (fun k => if unk M3 s k then f k else 0) n
def AH (M : mM) (s : Nat) (M3 M2 : mM) : Prop := mOk M2 ∧ Vk M2 s ∧ FI (bS s) M3 M2 ∧ Wk M2 s ∧ Ct M2 s ∧ Rm M2 s 88 ∧ PLo M2 s ∧ ∀ k, mI M (s + 22) k ≠ 2 → mI M2 (s + 35) k = mI M (s + 35) k
section AN
variable {M M3 M2 : mM} {s n m : Nat} {ρ : Nat → Nat}
theorem AH.sw (hA : AC M s n m ρ M3) (h : AH M s M3 M2) : sameW M M2 s :=
  hA.2.2.2.2.2.2.2.2.1.trans (sameW.of h.2.2.1 (by omega) (fun x _ _ => by omega) (by omega))
theorem AH.sy (hA : AC M s n m ρ M3) (h : AH M s M3 M2) : Enu M2 s m ∧ Sy m (rowp M2 s m) (rowN M2 s m) (rowD M2 s) := by
  have hw := AH.sw hA h
  obtain ⟨hG, hC, hn, hm, hL, hR, hF, hP, -, h24, e1, e2, e3⟩ := hA
  obtain ⟨o2, V2, f2, W2, T2, R2, P2, h2⟩ := h
  have fe := f2.2.2.2.2.2.2
  have i36 : mI M2 (s + 36) = mI M3 (s + 36) := fe _ (by omega)
  have i39 : mI M2 (s + 39) = mI M3 (s + 39) := fe _ (by omega)
  have i40 : mI M2 (s + 40) = mI M3 (s + 40) := fe _ (by omega)
  have i22 : mI M2 (s + 22) = mI M3 (s + 22) := fe _ (by omega)
  have i22' : mI M2 (s + 22) = mI M (s + 22) := hw.1.2.2.2 _ (by omega) (by omega)
  have hu : ∀ k, unk M2 s k ↔ unk M3 s k := fun k => by unfold unk; rw [i36, i22]
  have huu : uu M2 s = uu M3 s := by funext r; unfold uu; rw [i39]
  have hG2 := hw.1.gw hG
  have hC2 := hw.1.gb hC
  have hn2 : mI M2 s 1 = n := by rw [hw.1.1]; exact hn
  have hcmd : ∀ k, k < n → unk M3 s k → (mI M (s + 22) k = 1 ∨ mI M (s + 22) k = 2) ∧ 0 < mny M s k := fun k hk hk2 => by
    rcases hR k hk hk2.1 (by rw [← i22', i22]; exact hk2.2) with ⟨c1, c2, -⟩ | ⟨c1, c2, -⟩
    · exact ⟨Or.inl c1, by omega⟩
    · exact ⟨Or.inr c1, c2⟩
  have hE : Enu M2 s m := by
    refine ⟨fun r hr => ?_, fun k hk hk2 => ?_, fun r hr => ?_, fun k hk h3 => ?_⟩
    · obtain ⟨a1, a2, a3, a4⟩ := e1 r hr
      rw [huu, i39, i40, hn2]
      exact ⟨a1, a2, (hu _).2 a3, a4⟩
    · rw [i40, i39]
      exact e2 k (by omega) ((hu k).1 hk2)
    · obtain ⟨a1, a2, a3, a4⟩ := e1 r hr
      rw [huu]
      have hk : uu M3 s r < n := by unfold uu; omega
      have a := hcmd _ hk a3
      have b := P2 (uu M3 s r) (by omega) (by rw [hw.1.hm]; exact a.2)
      exact ⟨b.1, b.2.1⟩
    · rw [i36]
      exact hF.1 k (by omega) (by rw [← i22']; exact h3)
  obtain ⟨τ, w, l1, l2, l3, l4, l5, l6⟩ := hL
  have hsub := ins_sub hG hn hP hR l1 l2
  have hrow : ∀ r, r < m → uu M2 s r < n ∧ mkd M3 s (uu M2 s r) ∧ mI M (s + 22) (uu M2 s r) ≠ 3 ∧ (pl M2 s (uu M2 s r) : Int) < mny M s (uu M2 s r) ∧ mayP M s (uu M2 s r) (pl M2 s (uu M2 s r)) ∧ LD M s (uu M2 s r) (pl M2 s (uu M2 s r)) (fun t => mkd M3 s t ∧ ρ t < ρ (uu M2 s r)) := fun r hr => by
    obtain ⟨c1, c2, c3, c4⟩ := hE.cmd hG2 hr
    have hk : uu M2 s r < n := by omega
    have hk2 := (hu _).1 (hE.1 r hr).2.2.1
    have h3 : mI M (s + 22) (uu M2 s r) ≠ 3 := by rw [← i22', i22]; exact hk2.2
    rw [hw.1.hm] at c3
    have hmy := (P2 _ c1 (by rw [hw.1.hm]; omega)).2.2
    rw [hw.may] at hmy
    refine ⟨hk, hk2.1, h3, c3, hmy, ?_⟩
    rcases hR _ hk hk2.1 h3 with ⟨d1, d2, d3⟩ | ⟨d1, d2, d3⟩
    · have e : pl M2 s (uu M2 s r) = pl M s (uu M2 s r) := by unfold pl; rw [h2 _ (by omega)]
      rw [e]
      exact d3
    · exact d3 _ c3 hmy
  refine ⟨hE, rowp_sy (ρ := ρ) (w := fun r => w (uu M2 s r)) hE hG2 hC2 (fun r hr => ?_) (fun r hr => ?_) ?_⟩
  · obtain ⟨b, b1, b2, b3⟩ := (hrow r hr).2.2.2.2.2
    have e : rwc M2 s r = cx M s (uu M2 s r) (pl M2 s (uu M2 s r)) := by unfold rwc; rw [hw.1.hx]
    rw [e, hw.1.hn, hw.1.ht, hw.1.hb, i36]
    exact ⟨b, b1, b2, b3⟩
  · obtain ⟨g1, g2, g3, g4, g5, -⟩ := hrow r hr
    have a := l3 _ g1 (hsub _ g1 g2) g3
    refine ⟨a.1, ?_⟩
    have e : rowD M2 s r = mI M (s + 24) (cx M s (uu M2 s r) (pl M2 s (uu M2 s r))) := by unfold rowD rwc; rw [hw.1.hx, hw.1.2.2.2 (s + 24) (by omega) (by omega)]
    rw [e]
    exact a.2 _ g4 g5
  · rw [huu, e3 w]
    refine Int.le_trans (sm_le n (fun k hk => ?_)) l5
    have := l4 k hk
    split <;> omega
theorem AH.vl (hA : AC M s n m ρ M3) (h : AH M s M3 M2) : VL M s n (mkd M3 s) (pl M2 s) (valx M2 s m) := by
  have hw := AH.sw hA h
  obtain ⟨hE, hS⟩ := AH.sy hA h
  obtain ⟨hG, hC, hn, hm, -⟩ := hA
  have f2 := h.2.2.1
  have fe := f2.2.2.2.2.2.2
  have i36 : mI M2 (s + 36) = mI M3 (s + 36) := fe _ (by omega)
  have i22 : mI M2 (s + 22) = mI M (s + 22) := hw.1.2.2.2 _ (by omega) (by omega)
  have hG2 := hw.1.gw hG
  have hC2 := hw.1.gb hC
  have hn2 : mI M2 s 1 = n := by rw [hw.1.1]; exact hn
  have hu : ∀ k, unk M2 s k ↔ (mkd M3 s k ∧ mI M (s + 22) k ≠ 3) := fun k => by unfold unk; rw [i36, i22]
  refine ⟨fun k hk => ⟨?_, (valx_01 hE hS (by omega)).1⟩, fun k hk h3 => ?_, fun k hk hnA h3 => ?_, fun k hk hAk h3 => ?_, fun z h1 h2 k hk => ?_, fun z h1 h2 k hk => ?_⟩
  · by_cases q : mI M2 (s + 36) k ≠ 0 ∧ mI M2 (s + 22) k ≠ 3
    · rw [valx_y q]
      obtain ⟨r1, r2, r3⟩ := hE.2.1 k (by omega) q
      exact hS.val (by omega)
    · rw [valx_n q]
      split
      · exact smp_one
      · exact smp_zero
  · rw [valx_n (fun w => w.2 (by rw [i22]; exact h3)), i22, if_pos h3]
  · rw [valx_n (fun w => hnA (by have := w.1; rw [i36] at this; exact this)), i22, if_neg h3]
  · have e := valx_eq hE hG2 hS (k := k) (by omega) ((hu k).2 ⟨hAk, h3⟩)
    rw [hw.1.hw, hw.1.hx] at e
    exact e
  · refine sub_le hE hG2 hC2 hS (x := z) (fun j hj hj2 => ?_) (fun j hj hj2 => ?_) k (by omega)
    · have a := (hu j).1 hj2
      rw [hw.1.hw, hw.1.hx]
      exact h1 j (by omega) a.1 a.2
    · exact h2 j (by omega) (fun w => hj2 ((hu j).2 w))
  · refine sup_ge hE hG2 hC2 hS (x := z) (fun j hj hj2 => ?_) (fun j hj hj2 => ?_) k (by omega)
    · have a := (hu j).1 hj2
      rw [hw.1.hw, hw.1.hx]
      exact h1 j (by omega) a.1 a.2
    · exact h2 j (by omega) (fun w => hj2 ((hu j).2 w))
end AN
