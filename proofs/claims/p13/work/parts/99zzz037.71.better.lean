/-! Better choices move the values one way. -/
theorem argmaxP {P : Nat → Prop} {f : Nat → Rat} : ∀ n, (∃ k, k < n ∧ P k) → ∃ k, k < n ∧ P k ∧ ∀ j, j < n → P j → f j ≤ f k
  | 0, h => by obtain ⟨k, h, _⟩ := h; omega
  | n + 1, h => by
    by_cases q : ∃ k, k < n ∧ P k
    · obtain ⟨k, k1, k2, k3⟩ := argmaxP n q
      by_cases z : P n ∧ f k ≤ f n
      · refine ⟨n, by omega, z.1, fun j hj hp => ?_⟩
        by_cases y : j = n
        · rw [y]; exact Rat.le_refl
        · exact Rat.le_trans (k3 j (by omega) hp) z.2
      · refine ⟨k, by omega, k2, fun j hj hp => ?_⟩
        by_cases y : j = n
        · subst y
          have : ¬ f k ≤ f j := fun w => z ⟨hp, w⟩
          grind
        · exact k3 j (by omega) hp
    · obtain ⟨k, k1, k2⟩ := h
      have : k = n := Classical.byContradiction (fun w => q ⟨k, by omega, k2⟩)
      subst this
      refine ⟨k, by omega, k2, fun j hj hp => ?_⟩
      have : j = k := Classical.byContradiction (fun w => q ⟨j, by omega, hp⟩)
      rw [this]; exact Rat.le_refl
theorem argminN {P : Nat → Prop} {f : Nat → Nat} {n : Nat} : ∀ t k, f k = t → k < n → P k → ∃ k, k < n ∧ P k ∧ ∀ j, j < n → P j → f k ≤ f j := by
  intro t
  induction t using Nat.strongRecOn with
  | ind t ih =>
    intro k e hk hp
    by_cases q : ∃ j, j < n ∧ P j ∧ f j < t
    · obtain ⟨j, j1, j2, j3⟩ := q
      exact ih (f j) j3 j rfl j1 j2
    · exact ⟨k, hk, hp, fun j hj hpj => Classical.byContradiction (fun w => q ⟨j, hj, hpj, by omega⟩)⟩
/-- command i of state k may lead into T -/
def LD (M : mM) (s k i : Nat) (T : Nat → Prop) : Prop := ∃ b, b < nb M s (cx M s k i) ∧ T (tg M s (bg M s (cx M s k i) + b))
section UP
variable {M : mM} {s n : Nat} {x : Nat → Rat}
theorem leadQ_LD {T : Nat → Prop} (hG : GW M s) {k i : Nat} (hk : (k : Int) < mI M s 1) (hi : (i : Int) < mny M s k) : leadQ T M s k i ↔ LD M s k i T := by
  have hc := hG.cmd hk
  have hi' := hi
  unfold mny at hi'
  have hcx : (cx M s k i : Int) = mI M (s + 23) k + i := by unfold cx; omega
  have hb := hG.brn (c := cx M s k i) (by omega)
  have e : (mI M (s + 23) k).toNat + i = cx M s k i := rfl
  unfold leadQ LD
  rw [e]
  constructor
  · rintro ⟨b, b1, b2, b3⟩
    refine ⟨b - bg M s (cx M s k i), by unfold nb bg; omega, ?_⟩
    rw [show bg M s (cx M s k i) + (b - bg M s (cx M s k i)) = b by unfold bg; omega]
    exact b3
  · rintro ⟨b, b1, b2⟩
    exact ⟨bg M s (cx M s k i) + b, by unfold bg; omega, by unfold nb bg at *; omega, b2⟩
theorem cx_lt (hG : GW M s) {k i : Nat} (hk : (k : Int) < mI M s 1) (hi : (i : Int) < mny M s k) : (cx M s k i : Int) < mI M s 2 := by
  have hc := hG.cmd hk
  unfold mny at hi
  unfold cx
  omega
/-- all branches of a command lead to where x is at most c; one leads to where it is less -/
theorem cw_below (hG : GW M s) (hC : GB M s) {k i : Nat} (hk : (k : Int) < mI M s 1) (hi : (i : Int) < mny M s k) {c : Rat} {T : Nat → Prop} (hT : ∀ t : Nat, (t : Int) < mI M s 1 → T t → x t ≤ c) (hn : ¬ LD M s k i (fun t => ¬ T t)) : cw M s (cx M s k i) x ≤ c ∧ (LD M s k i (fun t => x t < c) → cw M s (cx M s k i) x < c) := by
  have hcx := cx_lt hG hk hi
  have hb : ∀ b, b < nb M s (cx M s k i) → x (tg M s (bg M s (cx M s k i) + b)) ≤ c := fun b hb => hT _ (tg_lt hG hcx hb) (Classical.byContradiction (fun w => hn ⟨b, hb, w⟩))
  refine ⟨?_, fun hl => ?_⟩
  · have a := cw_le hC hcx (f := x) (g := fun _ => c) hb
    rw [cw_const hC hcx] at a
    exact a
  · obtain ⟨b, b1, b2⟩ := hl
    have a := cw_lt hC hcx (f := x) (g := fun _ => c) hb ⟨b, b1, b2⟩
    rw [cw_const hC hcx] at a
    exact a
theorem up0 (hG : GW M s) (hC : GB M s) (hn : mI M s 1 = n) {A A' : Nat → Prop} {ρ σ σ' : Nat → Nat}
    (hA : ∀ k, k < n → A k → mI M (s + 22) k ≠ 3 → (mI M (s + 22) k = 1 ∧ (σ k : Int) < mny M s k ∧ LD M s k (σ k) (fun t => A t ∧ ρ t < ρ k)) ∨ (mI M (s + 22) k = 2 ∧ 0 < mny M s k ∧ ∀ i : Nat, (i : Int) < mny M s k → mayP M s k i → LD M s k i (fun t => A t ∧ ρ t < ρ k)))
    (hA3 : ∀ k, k < n → mI M (s + 22) k = 3 → A' k)
    (hA' : ∀ k, k < n → ¬ A' k → (mI M (s + 22) k = 1 → (σ' k : Int) < mny M s k → ¬ LD M s k (σ' k) A') ∧ (mI M (s + 22) k = 2 → 0 < mny M s k → ∃ i : Nat, (i : Int) < mny M s k ∧ mayP M s k i ∧ ¬ LD M s k i A'))
    (hx0 : ∀ k, k < n → ¬ A k → mI M (s + 22) k ≠ 3 → x k = 0)
    (hx1 : ∀ k, k < n → A k → mI M (s + 22) k = 1 → x k = cw M s (cx M s k (σ k)) x)
    (hx2 : ∀ k, k < n → A k → mI M (s + 22) k = 2 → ∀ i : Nat, (i : Int) < mny M s k → mayP M s k i → x k ≤ cw M s (cx M s k i) x)
    (hσ : ∀ k, k < n → mI M (s + 22) k = 1 → σ' k = σ k ∨ ((σ' k : Int) < mny M s k ∧ x k < cw M s (cx M s k (σ' k)) x)) :
    ∀ k, k < n → ¬ A' k → x k ≤ 0 := by
  intro k0 hk0 hu0
  refine Classical.byContradiction (fun hpos => ?_)
  obtain ⟨k1, a1, a2, a3⟩ := argmaxP (P := fun k => ¬ A' k) (f := x) n ⟨k0, hk0, hu0⟩
  have hc0 : 0 < x k1 := by have := a3 k0 hk0 hu0; grind
  obtain ⟨k, b1, b2, b3⟩ := argminN (P := fun k => ¬ A' k ∧ x k = x k1) (f := ρ) (n := n) (ρ k1) k1 rfl a1 ⟨a2, rfl⟩
  generalize x k1 = c at *
  obtain ⟨b2, b4⟩ := b2
  have hK3 : mI M (s + 22) k ≠ 3 := fun w => b2 (hA3 k b1 w)
  have hAk : A k := Classical.byContradiction (fun w => by have := hx0 k b1 w hK3; grind)
  have hkI : (k : Int) < mI M s 1 := by omega
  have key : ∀ i : Nat, (i : Int) < mny M s k → ¬ LD M s k i A' → LD M s k i (fun t => A t ∧ ρ t < ρ k) → cw M s (cx M s k i) x < c := fun i hi h1 h2 => by
    have hcx := cx_lt hG hkI hi
    have hb := cw_below (x := x) hG hC hkI hi (c := c) (T := fun t => ¬ A' t) (fun t ht ha => a3 t (by omega) ha) (fun ⟨b, w1, w2⟩ => h1 ⟨b, w1, Classical.byContradiction (fun w3 => w2 w3)⟩)
    refine hb.2 ?_
    obtain ⟨b, w1, w2, w3⟩ := h2
    have htl := tg_lt hG hcx w1
    have hnt : ¬ A' (tg M s (bg M s (cx M s k i) + b)) := fun w => h1 ⟨b, w1, w⟩
    refine ⟨b, w1, ?_⟩
    have h3 := a3 _ (by omega) hnt
    refine Classical.byContradiction (fun w => ?_)
    have h4 := b3 (tg M s (bg M s (cx M s k i) + b)) (by omega) ⟨hnt, by grind⟩
    omega
  rcases hA k b1 hAk hK3 with ⟨c1, c2, c3⟩ | ⟨c1, c2, c3⟩
  · rcases hσ k b1 c1 with e | ⟨e1, e2⟩
    · have h1 := (hA' k b1 b2).1 c1 (by rw [e]; exact c2)
      rw [e] at h1
      have h2 := key (σ k) c2 h1 c3
      have h3 := hx1 k b1 hAk c1
      grind
    · have h1 := (hA' k b1 b2).1 c1 e1
      have hb := cw_below (x := x) hG hC hkI e1 (c := c) (T := fun t => ¬ A' t) (fun t ht ha => a3 t (by omega) ha) (fun ⟨b, w1, w2⟩ => h1 ⟨b, w1, Classical.byContradiction (fun w3 => w2 w3)⟩)
      have := hb.1
      grind
  · obtain ⟨i, d1, d2, d3⟩ := (hA' k b1 b2).2 c1 c2
    have h2 := key i d1 d3 (c3 i d1 d2)
    have h3 := hx2 k b1 hAk c1 i d1 d2
    grind
end UP
section SB
variable {M : mM} {s m n : Nat} {N : Nat → Nat → Int} {D : Nat → Int} {x : Nat → Rat}
theorem cw_sub {f g : Nat → Rat} {c : Nat} : cw M s c (fun k => f k - g k) = cw M s c f - cw M s c g := by
  have e : cw M s c (fun k => f k - g k) = cw M s c (fun k => f k + (-1) * g k) := cw_congr (fun b hb => by grind)
  rw [e, cw_add, cw_mul]
  grind
theorem sub_le (hE : Enu M s m) (hG : GW M s) (hC : GB M s) (hS : Sy m (rowp M s m) N D) (h1 : ∀ k : Nat, (k : Int) < mI M s 1 → unk M s k → x k ≤ cw M s (cx M s k (pl M s k)) x) (h2 : ∀ k : Nat, (k : Int) < mI M s 1 → ¬ unk M s k → x k ≤ valx M s m k) : ∀ k : Nat, (k : Int) < mI M s 1 → x k ≤ valx M s m k := by
  obtain ⟨⟨h, g⟩, -⟩ := id hS
  have hz : ∀ r, r < m → x (uu M s r) - valx M s m (uu M s r) ≤ 0 := by
    refine maxp g (z := fun r => x (uu M s r) - valx M s m (uu M s r)) (fun r hr => ?_)
    obtain ⟨c1, c2, -⟩ := hE.cmd hG hr
    have hu := (hE.1 r hr).2.2.1
    rw [rowp_sum hE hG hr]
    have e1 := h1 _ c1 hu
    have e2 := valx_eq hE hG hS c1 hu
    have e3 : cx M s (uu M s r) (pl M s (uu M s r)) = rwc M s r := rfl
    rw [e3] at e1 e2
    have e4 := cw_le hC c2 (f := fun k => x k - valx M s m k) (g := eU M s (fun r => x (uu M s r) - valx M s m (uu M s r))) (fun b hb => by
      have ht := tg_lt hG c2 hb
      generalize tg M s (bg M s (rwc M s r) + b) = t at *
      unfold eU
      by_cases q : mI M (s + 36) t ≠ 0 ∧ mI M (s + 22) t ≠ 3
      · rw [if_pos q]
        have r3 := (hE.2.1 t ht q).2.2
        have euj : uu M s (mI M (s + 40) t).toNat = t := by unfold uu; omega
        show x t - valx M s m t ≤ x (uu M s (mI M (s + 40) t).toNat) - valx M s m (uu M s (mI M (s + 40) t).toNat)
        rw [euj]
        exact Rat.le_refl
      · rw [if_neg q]
        have := h2 t ht q
        grind)
    rw [cw_sub] at e4
    grind
  intro k hk
  by_cases q : unk M s k
  · obtain ⟨r1, r2, r3⟩ := hE.2.1 k hk q
    have euj : uu M s (mI M (s + 40) k).toNat = k := by unfold uu; omega
    have a := hz (mI M (s + 40) k).toNat (by omega)
    rw [euj] at a
    grind
  · exact h2 k hk q
theorem sup_ge (hE : Enu M s m) (hG : GW M s) (hC : GB M s) (hS : Sy m (rowp M s m) N D) (h1 : ∀ k : Nat, (k : Int) < mI M s 1 → unk M s k → cw M s (cx M s k (pl M s k)) x ≤ x k) (h2 : ∀ k : Nat, (k : Int) < mI M s 1 → ¬ unk M s k → valx M s m k ≤ x k) : ∀ k : Nat, (k : Int) < mI M s 1 → valx M s m k ≤ x k := by
  obtain ⟨⟨h, g⟩, -⟩ := id hS
  have hz : ∀ r, r < m → valx M s m (uu M s r) - x (uu M s r) ≤ 0 := by
    refine maxp g (z := fun r => valx M s m (uu M s r) - x (uu M s r)) (fun r hr => ?_)
    obtain ⟨c1, c2, -⟩ := hE.cmd hG hr
    have hu := (hE.1 r hr).2.2.1
    rw [rowp_sum hE hG hr]
    have e1 := h1 _ c1 hu
    have e2 := valx_eq hE hG hS c1 hu
    have e3 : cx M s (uu M s r) (pl M s (uu M s r)) = rwc M s r := rfl
    rw [e3] at e1 e2
    have e4 := cw_le hC c2 (f := fun k => valx M s m k - x k) (g := eU M s (fun r => valx M s m (uu M s r) - x (uu M s r))) (fun b hb => by
      have ht := tg_lt hG c2 hb
      generalize tg M s (bg M s (rwc M s r) + b) = t at *
      unfold eU
      by_cases q : mI M (s + 36) t ≠ 0 ∧ mI M (s + 22) t ≠ 3
      · rw [if_pos q]
        have r3 := (hE.2.1 t ht q).2.2
        have euj : uu M s (mI M (s + 40) t).toNat = t := by unfold uu; omega
        show valx M s m t - x t ≤ valx M s m (uu M s (mI M (s + 40) t).toNat) - x (uu M s (mI M (s + 40) t).toNat)
        rw [euj]
        exact Rat.le_refl
      · rw [if_neg q]
        have := h2 t ht q
        grind)
    rw [cw_sub] at e4
    grind
  intro k hk
  by_cases q : unk M s k
  · obtain ⟨r1, r2, r3⟩ := hE.2.1 k hk q
    have euj : uu M s (mI M (s + 40) k).toNat = k := by unfold uu; omega
    have a := hz (mI M (s + 40) k).toNat (by omega)
    rw [euj] at a
    grind
  · exact h2 k hk q
end SB
