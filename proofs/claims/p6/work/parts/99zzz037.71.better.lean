section
/-! Better choices move the values one way. -/
theorem argmaxP {P : Nat → Prop} {f : Nat → Rat} : ∀ n, (∃ k, k < n ∧ P k) → ∃ k, k < n ∧ P k ∧ ∀ j, j < n → P j → f j ≤ f k
  | 0, h => by obtain ⟨k, h, _⟩ := h; omega
  | n + 1, h => by
    by_cases q : ∃ k, k < n ∧ P k
    · obtain ⟨k, k1, k2, k3⟩ := argmaxP n q
      by_cases z : P n ∧ f k ≤ f n
      · refine ⟨n, by omega, z.1, fun j hj hp => ?_⟩
        by_cases y : j = n
        · rw [y]; exact Rat.le_refl
        · exact Rat.le_trans (k3 j (by omega) hp) z.2
      · refine ⟨k, by omega, k2, fun j hj hp => ?_⟩
        by_cases y : j = n
        · subst y
          have : ¬ f k ≤ f j := fun w => z ⟨hp, w⟩
          grind
        · exact k3 j (by omega) hp
    · obtain ⟨k, k1, k2⟩ := h
      have : k = n := Classical.byContradiction (fun w => q ⟨k, by omega, k2⟩)
      subst this
      refine ⟨k, by omega, k2, fun j hj hp => ?_⟩
      have : j = k := Classical.byContradiction (fun w => q ⟨j, by omega, hp⟩)
      rw [this]; exact Rat.le_refl
theorem argminN {P : Nat → Prop} {f : Nat → Nat} {n : Nat} : ∀ t k, f k = t → k < n → P k → ∃ k, k < n ∧ P k ∧ ∀ j, j < n → P j → f k ≤ f j := by
  intro t
  induction t using Nat.strongRecOn with
  | ind t ih =>
    intro k e hk hp
    by_cases q : ∃ j, j < n ∧ P j ∧ f j < t
    · obtain ⟨j, j1, j2, j3⟩ := q
      exact ih (f j) j3 j rfl j1 j2
    · exact ⟨k, hk, hp, fun j hj hpj => Classical.byContradiction (fun w => q ⟨j, hj, hpj, by omega⟩)⟩
/-- command i of state k may lead into T -/
def LD (M : mM) (s k i : Nat) (T : Nat → Prop) : Prop := ∃ b, b < nb M s (cx M s k i) ∧ T (tg M s (bg M s (cx M s k i) + b))
section UP
variable {M : mM} {s n : Nat} {x : Nat → Rat}
theorem leadQ_LD {T : Nat → Prop} (hG : GW M s) {k i : Nat} (hk : (k : Int) < mI M s 1) (hi : (i : Int) < mny M s k) : leadQ T M s k i ↔ LD M s k i T := by
  have hc := hG.cmd hk
  have hi' := hi
  unfold mny at hi'
  have hcx : (cx M s k i : Int) = mI M (s + 23) k + i := by unfold cx; omega
  have hb := hG.brn (c := cx M s k i) (by omega)
  have e : (mI M (s + 23) k).toNat + i = cx M s k i := rfl
  unfold leadQ LD
  rw [e]
  constructor
  · rintro ⟨b, b1, b2, b3⟩
    refine ⟨b - bg M s (cx M s k i), by unfold nb bg; omega, ?_⟩
    rw [show bg M s (cx M s k i) + (b - bg M s (cx M s k i)) = b by unfold bg; omega]
    exact b3
  · rintro ⟨b, b1, b2⟩
    exact ⟨bg M s (cx M s k i) + b, by unfold bg; omega, by unfold nb bg at *; omega, b2⟩
theorem cx_lt (hG : GW M s) {k i : Nat} (hk : (k : Int) < mI M s 1) (hi : (i : Int) < mny M s k) : (cx M s k i : Int) < mI M s 2 := by
  have hc := hG.cmd hk
  unfold mny at hi
  unfold cx
  omega
/-- all branches of a command lead to where x is at most c; one leads to where it is less -/
theorem cw_below (hG : GW M s) (hC : GB M s) {k i : Nat} (hk : (k : Int) < mI M s 1) (hi : (i : Int) < mny M s k) {c : Rat} {T : Nat → Prop} (hT : ∀ t : Nat, (t : Int) < mI M s 1 → T t → x t ≤ c) (hn : ¬ LD M s k i (fun t => ¬ T t)) : cw M s (cx M s k i) x ≤ c ∧ (LD M s k i (fun t => x t < c) → cw M s (cx M s k i) x < c) := by
  have hcx := cx_lt hG hk hi
  have hb : ∀ b, b < nb M s (cx M s k i) → x (tg M s (bg M s (cx M s k i) + b)) ≤ c := fun b hb => hT _ (tg_lt hG hcx hb) (Classical.byContradiction (fun w => hn ⟨b, hb, w⟩))
  refine ⟨?_, fun hl => ?_⟩
  · have a := cw_le hC hcx (f := x) (g := fun _ => c) hb
    rw [cw_const hC hcx] at a
    exact a
  · obtain ⟨b, b1, b2⟩ := hl
    have a := cw_lt hC hcx (f := x) (g := fun _ => c) hb ⟨b, b1, b2⟩
    rw [cw_const hC hcx] at a
    exact a
theorem up0 (hG : GW M s) (hC : GB M s) (hn : mI M s 1 = n) {A A' : Nat → Prop} {ρ σ σ' : Nat → Nat}
    (hA : ∀ k, k < n → A k → mI M (s + 22) k ≠ 3 → (mI M (s + 22) k = 1 ∧ (σ k : Int) < mny M s k ∧ LD M s k (σ k) (fun t => A t ∧ ρ t < ρ k)) ∨ (mI M (s + 22) k = 2 ∧ 0 < mny M s k ∧ ∀ i : Nat, (i : Int) < mny M s k → mayP M s k i → LD M s k i (fun t => A t ∧ ρ t < ρ k)))
    (hA3 : ∀ k, k < n → mI M (s + 22) k = 3 → A' k)
    (hA' : ∀ k, k < n → ¬ A' k → (mI M (s + 22) k = 1 → (σ' k : Int) < mny M s k → ¬ LD M s k (σ' k) A') ∧ (mI M (s + 22) k = 2 → 0 < mny M s k → ∃ i : Nat, (i : Int) < mny M s k ∧ mayP M s k i ∧ ¬ LD M s k i A'))
    (hx0 : ∀ k, k < n → ¬ A k → mI M (s + 22) k ≠ 3 → x k = 0)
    (hx1 : ∀ k, k < n → A k → mI M (s + 22) k = 1 → x k = cw M s (cx M s k (σ k)) x)
    (hx2 : ∀ k, k < n → A k → mI M (s + 22) k = 2 → ∀ i : Nat, (i : Int) < mny M s k → mayP M s k i → x k ≤ cw M s (cx M s k i) x)
    (hσ : ∀ k, k < n → mI M (s + 22) k = 1 → σ' k = σ k ∨ ((σ' k : Int) < mny M s k ∧ x k < cw M s (cx M s k (σ' k)) x)) :
    ∀ k, k < n → ¬ A' k → x k ≤ 0 := by
  intro k0 hk0 hu0
  refine Classical.byContradiction (fun hpos => ?_)
  obtain ⟨k1, a1, a2, a3⟩ := argmaxP (P := fun k => ¬ A' k) (f := x) n ⟨k0, hk0, hu0⟩
  have hc0 : 0 < x k1 := by have := a3 k0 hk0 hu0; grind
  obtain ⟨k, b1, b2, b3⟩ := argminN (P := fun k => ¬ A' k ∧ x k = x k1) (f := ρ) (n := n) (ρ k1) k1 rfl a1 ⟨a2, rfl⟩
  generalize x k1 = c at *
  obtain ⟨b2, b4⟩ := b2
  have hK3 : mI M (s + 22) k ≠ 3 := fun w => b2 (hA3 k b1 w)
  have hAk : A k := Classical.byContradiction (fun w => by have := hx0 k b1 w hK3; grind)
  have hkI : (k : Int) < mI M s 1 := by omega
  have key : ∀ i : Nat, (i : Int) < mny M s k → ¬ LD M s k i A' → LD M s k i (fun t => A t ∧ ρ t < ρ k) → cw M s (cx M s k i) x < c := fun i hi h1 h2 => by
    have hcx := cx_lt hG hkI hi
    have hb := cw_below (x := x) hG hC hkI hi (c := c) (T := fun t => ¬ A' t) (fun t ht ha => a3 t (by omega) ha) (fun ⟨b, w1, w2⟩ => h1 ⟨b, w1, Classical.byContradiction (fun w3 => w2 w3)⟩)
    refine hb.2 ?_
    obtain ⟨b, w1, w2, w3⟩ := h2
    have htl := tg_lt hG hcx w1
    have hnt : ¬ A' (tg M s (bg M s (cx M s k i) + b)) := fun w => h1 ⟨b, w1, w⟩
    refine ⟨b, w1, ?_⟩
    have h3 := a3 _ (by omega) hnt
    refine Classical.byContradiction (fun w => ?_)
    have h4 := b3 (tg M s (bg M s (cx M s k i) + b)) (by omega) ⟨hnt, by grind⟩
    omega
  rcases hA k b1 hAk hK3 with ⟨c1, c2, c3⟩ | ⟨c1, c2, c3⟩
  · rcases hσ k b1 c1 with e | ⟨e1, e2⟩
    · have h1 := (hA' k b1 b2).1 c1 (by rw [e]; exact c2)
      rw [e] at h1
      have h2 := key (σ k) c2 h1 c3
      have h3 := hx1 k b1 hAk c1
      grind
    · have h1 := (hA' k b1 b2).1 c1 e1
      have hb := cw_below (x := x) hG hC hkI e1 (c := c) (T := fun t => ¬ A' t) (fun t ht ha => a3 t (by omega) ha) (fun ⟨b, w1, w2⟩ => h1 ⟨b, w1, Classical.byContradiction (fun w3 => w2 w3)⟩)
      have := hb.1
      grind
  · obtain ⟨i, d1, d2, d3⟩ := (hA' k b1 b2).2 c1 c2
    have h2 := key i d1 d3 (c3 i d1 d2)
    have h3 := hx2 k b1 hAk c1 i d1 d2
    grind
end UP
section SB
variable {M : mM} {s m n : Nat} {N : Nat → Nat → Int} {D : Nat → Int} {x : Nat → Rat}
theorem cw_sub {f g : Nat → Rat} {c : Nat} : cw M s c (fun k => f k - g k) = cw M s c f - cw M s c g := by
  have e : cw M s c (fun k => f k - g k) = cw M s c (fun k => f k + (-1) * g k) := cw_congr (fun b hb => by grind)
  rw [e, cw_add, cw_mul]
  grind
theorem sub_le (hE : Enu M s m) (hG : GW M s) (hC : GB M s) (hS : Sy m (rowp M s m) N D) (h1 : ∀ k : Nat, (k : Int) < mI M s 1 → unk M s k → x k ≤ cw M s (cx M s k (pl M s k)) x) (h2 : ∀ k : Nat, (k : Int) < mI M s 1 → ¬ unk M s k → x k ≤ valx M s m k) : ∀ k : Nat, (k : Int) < mI M s 1 → x k ≤ valx M s m k := by
  obtain ⟨⟨h, g⟩, -⟩ := id hS
  have hz : ∀ r, r < m → x (uu M s r) - valx M s m (uu M s r) ≤ 0 := by
    refine maxp g (z := fun r => x (uu M s r) - valx M s m (uu M s r)) (fun r hr => ?_)
    obtain ⟨c1, c2, -⟩ := hE.cmd hG hr
    have hu := (hE.1 r hr).2.2.1
    rw [rowp_sum hE hG hr]
    have e1 := h1 _ c1 hu
    have e2 := valx_eq hE hG hS c1 hu
    have e3 : cx M s (uu M s r) (pl M s (uu M s r)) = rwc M s r := rfl
    rw [e3] at e1 e2
    have e4 := cw_le hC c2 (f := fun k => x k - valx M s m k) (g := eU M s (fun r => x (uu M s r) - valx M s m (uu M s r))) (fun b hb => by
      have ht := tg_lt hG c2 hb
      generalize tg M s (bg M s (rwc M s r) + b) = t at *
      unfold eU
      by_cases q : mI M (s + 36) t ≠ 0 ∧ mI M (s + 22) t ≠ 3
      · rw [if_pos q]
        have r3 := (hE.2.1 t ht q).2.2
        have euj : uu M s (mI M (s + 40) t).toNat = t := by unfold uu; omega
        show x t - valx M s m t ≤ x (uu M s (mI M (s + 40) t).toNat) - valx M s m (uu M s (mI M (s + 40) t).toNat)
        rw [euj]
        exact Rat.le_refl
      · rw [if_neg q]
        have := h2 t ht q
        grind)
    rw [cw_sub] at e4
    grind
  intro k hk
  by_cases q : unk M s k
  · obtain ⟨r1, r2, r3⟩ := hE.2.1 k hk q
    have euj : uu M s (mI M (s + 40) k).toNat = k := by unfold uu; omega
    have a := hz (mI M (s + 40) k).toNat (by omega)
    rw [euj] at a
    grind
  · exact h2 k hk q
theorem sup_ge (hE : Enu M s m) (hG : GW M s) (hC : GB M s) (hS : Sy m (rowp M s m) N D) (h1 : ∀ k : Nat, (k : Int) < mI M s 1 → unk M s k → cw M s (cx M s k (pl M s k)) x ≤ x k) (h2 : ∀ k : Nat, (k : Int) < mI M s 1 → ¬ unk M s k → valx M s m k ≤ x k) : ∀ k : Nat, (k : Int) < mI M s 1 → valx M s m k ≤ x k := by
  obtain ⟨⟨h, g⟩, -⟩ := id hS
  have hz : ∀ r, r < m → valx M s m (uu M s r) - x (uu M s r) ≤ 0 := by
    refine maxp g (z := fun r => valx M s m (uu M s r) - x (uu M s r)) (fun r hr => ?_)
    obtain ⟨c1, c2, -⟩ := hE.cmd hG hr
    have hu := (hE.1 r hr).2.2.1
    rw [rowp_sum hE hG hr]
    have e1 := h1 _ c1 hu
    have e2 := valx_eq hE hG hS c1 hu
    have e3 : cx M s (uu M s r) (pl M s (uu M s r)) = rwc M s r := rfl
    rw [e3] at e1 e2
    have e4 := cw_le hC c2 (f := fun k => valx M s m k - x k) (g := eU M s (fun r => valx M s m (uu M s r) - x (uu M s r))) (fun b hb => by
      have ht := tg_lt hG c2 hb
      generalize tg M s (bg M s (rwc M s r) + b) = t at *
      unfold eU
      by_cases q : mI M (s + 36) t ≠ 0 ∧ mI M (s + 22) t ≠ 3
      · rw [if_pos q]
        have r3 := (hE.2.1 t ht q).2.2
        have euj : uu M s (mI M (s + 40) t).toNat = t := by unfold uu; omega
        show valx M s m t - x t ≤ valx M s m (uu M s (mI M (s + 40) t).toNat) - x (uu M s (mI M (s + 40) t).toNat)
        rw [euj]
        exact Rat.le_refl
      · rw [if_neg q]
        have := h2 t ht q
        grind)
    rw [cw_sub] at e4
    grind
  intro k hk
  by_cases q : unk M s k
  · obtain ⟨r1, r2, r3⟩ := hE.2.1 k hk q
    have euj : uu M s (mI M (s + 40) k).toNat = k := by unfold uu; omega
    have a := hz (mI M (s + 40) k).toNat (by omega)
    rw [euj] at a
    grind
  · exact h2 k hk q
end SB
end
section
/-! The solver: the states that come to the end, and their rows. -/
/-- what is played is a command that may be taken -/
def PLo (M : mM) (s : Nat) : Prop := ∀ k : Nat, (k : Int) < mI M s 1 → 0 < mny M s k → 0 ≤ mI M (s + 35) k ∧ mI M (s + 35) k < mny M s k ∧ mayP M s k (pl M s k)
def sameW (M M' : mM) (s : Nat) : Prop := sameG M M' s ∧ mI M' s 17 = mI M s 17 ∧ mI M' (s + 32) = mI M (s + 32)
theorem sameW.refl {M : mM} {s : Nat} : sameW M M s := ⟨sameG.refl, rfl, rfl⟩
theorem sameW.trans {M M' M'' : mM} {s : Nat} (h : sameW M M' s) (h' : sameW M' M'' s) : sameW M M'' s := ⟨h.1.trans h'.1, h'.2.1.trans h.2.1, h'.2.2.trans h.2.2⟩
theorem sameW.of {S : Nat → Prop} {M M' : mM} {s : Nat} (f : FI S M M') (h0 : ¬ S s) (h1 : ∀ x, s + 22 ≤ x → x ≤ s + 28 → ¬ S x) (h2 : ¬ S (s + 32)) : sameW M M' s :=
  ⟨sameG.of f h0 h1, by rw [f.2.2.2.2.2.2 s h0], f.2.2.2.2.2.2 _ h2⟩
theorem sameW.may {M M' : mM} {s : Nat} (h : sameW M M' s) : mayP M' s = mayP M s := by
  funext k i
  unfold mayP
  rw [h.2.1, h.2.2, h.1.2.2.2 (s + 22) (by omega) (by omega)]
theorem sameG.hld {M M' : mM} {s : Nat} (h : sameG M M' s) : LD M' s = LD M s := by
  funext k i T
  unfold LD
  rw [h.hn, h.hx, h.ht, h.hb]
def Rnk (M : mM) (s n : Nat) (A : Nat → Prop) (ρ σ : Nat → Nat) : Prop := ∀ k, k < n → A k → mI M (s + 22) k ≠ 3 → (mI M (s + 22) k = 1 ∧ (σ k : Int) < mny M s k ∧ LD M s k (σ k) (fun t => A t ∧ ρ t < ρ k)) ∨ (mI M (s + 22) k = 2 ∧ 0 < mny M s k ∧ ∀ i : Nat, (i : Int) < mny M s k → mayP M s k i → LD M s k i (fun t => A t ∧ ρ t < ρ k))
def Fix (M : mM) (s n : Nat) (A : Nat → Prop) (σ : Nat → Nat) : Prop := (∀ k, k < n → mI M (s + 22) k = 3 → A k) ∧ ∀ k, k < n → ¬ A k → (mI M (s + 22) k = 1 → (σ k : Int) < mny M s k → ¬ LD M s k (σ k) A) ∧ (mI M (s + 22) k = 2 → 0 < mny M s k → ∃ i : Nat, (i : Int) < mny M s k ∧ mayP M s k i ∧ ¬ LD M s k i A)
theorem sameW.rnk {M M' : mM} {s n : Nat} {A : Nat → Prop} {ρ σ : Nat → Nat} (h : sameW M M' s) (r : Rnk M s n A ρ σ) : Rnk M' s n A ρ σ := by
  unfold Rnk at r ⊢
  rw [h.1.hm, h.may, h.1.hld, h.1.2.2.2 (s + 22) (by omega) (by omega)]
  exact r
/-- look has found at most 40 unknown states, not too heavy -/
def LQ (M : mM) (s n : Nat) : Prop := ∃ τ w : Nat → Int, (∀ k, k < n → mI M (s + 22) k = 3 → τ k ≠ 0) ∧ (∀ k, k < n → τ k = 0 → (mI M (s + 22) k = 1 → ∀ i : Nat, (i : Int) < mny M s k → mayP M s k i → ¬ LD M s k i (fun t => τ t ≠ 0)) ∧ (mI M (s + 22) k = 2 → 0 < mny M s k → ∃ i : Nat, (i : Int) < mny M s k ∧ mayP M s k i ∧ ¬ LD M s k i (fun t => τ t ≠ 0)))
  ∧ (∀ k, k < n → τ k ≠ 0 → mI M (s + 22) k ≠ 3 → 0 ≤ w k ∧ ∀ i : Nat, (i : Int) < mny M s k → mayP M s k i → 2 * mI M (s + 24) (cx M s k i) ≤ 2 ^ (w k).toNat) ∧ (∀ k, k < n → 0 ≤ w k) ∧ sm w n ≤ 480 ∧ sm (fun k => if τ k ≠ 0 ∧ mI M (s + 22) k ≠ 3 then 1 else 0) n ≤ 40
theorem sameW.lq {M M' : mM} {s n : Nat} (h : sameW M M' s) (r : LQ M s n) : LQ M' s n := by
  unfold LQ at r ⊢
  rw [h.1.hm, h.may, h.1.hld, h.1.hx, h.1.2.2.2 (s + 22) (by omega) (by omega), h.1.2.2.2 (s + 24) (by omega) (by omega)]
  exact r
theorem LD.mono {M : mM} {s k i : Nat} {T T' : Nat → Prop} (h : LD M s k i T) (hG : GW M s) (hk : (k : Int) < mI M s 1) (hi : (i : Int) < mny M s k) (ht : ∀ t : Nat, (t : Int) < mI M s 1 → T t → T' t) : LD M s k i T' := by
  obtain ⟨b, h1, h2⟩ := h
  exact ⟨b, h1, ht _ (tg_lt hG (cx_lt hG hk hi) h1) h2⟩
section RK
variable {M M1 : mM} {s n t : Nat} {ρ : Nat → Nat}
theorem gv_rnk (hG : GW M s) (hn : mI M s 1 = n) (h : gvI M s 1 M1 ρ t) : Rnk M s n (mkd M1 s) ρ (pl M s) := by
  intro k hk hA h3
  have hkI : (k : Int) < mI M s 1 := by omega
  obtain ⟨a1, a2, a3⟩ := h.2.2 k hkI
  have hA' : mI M1 (s + 36) k ≠ 0 := hA
  obtain ⟨-, c⟩ := a3 (by omega)
  rcases c with c | ⟨c1, i, c2, c3, c4⟩ | ⟨c1, c2, c3⟩
  · exact absurd c h3
  · left
    have e : mI M (s + 35) k = i := by
      rcases c3 with w | w
      · rcases w.1 with w | w
        · exact absurd c1 w
        · omega
      · exact w.2
    have ep : pl M s k = i := by unfold pl; omega
    rw [ep]
    exact ⟨c1, c2, (leadQ_LD hG hkI c2).1 c4⟩
  · right
    exact ⟨c1, c2, fun i hi hm => (leadQ_LD hG hkI hi).1 (c3 i hi (Or.inl ⟨Or.inl (by omega), hm⟩))⟩
theorem gv_fix (hG : GW M s) (hn : mI M s 1 = n) (hP : PLo M s) (h : gvQ M s 1 M1) : Fix M s n (mkd M1 s) (pl M s) := by
  obtain ⟨⟨ρ, t, h1⟩, h2⟩ := h
  refine ⟨fun k hk h3 => ?_, fun k hk hA => ⟨fun c1 hp hl => ?_, fun c1 hp => ?_⟩⟩
  · have a := (h1.2.2 k (by omega)).2.1 h3
    show mI M1 (s + 36) k ≠ 0
    omega
  · have hkI : (k : Int) < mI M s 1 := by omega
    have h0 : mI M1 (s + 36) k = 0 := Classical.byContradiction (fun w => hA w)
    have pk := hP k hkI (by omega)
    exact h2 k hkI h0 (Or.inl ⟨c1, pl M s k, hp, Or.inr ⟨fun w => by omega, by unfold pl; omega⟩, (leadQ_LD hG hkI hp).2 hl⟩)
  · have hkI : (k : Int) < mI M s 1 := by omega
    have h0 : mI M1 (s + 36) k = 0 := Classical.byContradiction (fun w => hA w)
    refine Classical.byContradiction (fun w => ?_)
    refine h2 k hkI h0 (Or.inr ⟨c1, hp, fun i hi hu => ?_⟩)
    have hm : mayP M s k i := by
      rcases hu with u | u
      · exact u.2
      · exact absurd (Or.inl (by omega)) u.1
    exact (leadQ_LD hG hkI hi).2 (Classical.byContradiction (fun w2 => w ⟨i, hi, hm, w2⟩))
/-- whoever comes to the end so, is seen by look -/
theorem ins_sub {A : Nat → Prop} {τ : Nat → Int} (hG : GW M s) (hn : mI M s 1 = n) (hP : PLo M s) (hR : Rnk M s n A ρ (pl M s)) (h3 : ∀ k, k < n → mI M (s + 22) k = 3 → τ k ≠ 0) (hτ : ∀ k, k < n → τ k = 0 → (mI M (s + 22) k = 1 → ∀ i : Nat, (i : Int) < mny M s k → mayP M s k i → ¬ LD M s k i (fun t => τ t ≠ 0)) ∧ (mI M (s + 22) k = 2 → 0 < mny M s k → ∃ i : Nat, (i : Int) < mny M s k ∧ mayP M s k i ∧ ¬ LD M s k i (fun t => τ t ≠ 0))) : ∀ k, k < n → A k → τ k ≠ 0 := by
  suffices H : ∀ r k, ρ k = r → k < n → A k → τ k ≠ 0 from fun k => H (ρ k) k rfl
  intro r
  induction r using Nat.strongRecOn with
  | ind r ih =>
    intro k er hk hA h0
    have hkI : (k : Int) < mI M s 1 := by omega
    have hK : mI M (s + 22) k ≠ 3 := fun w => h3 k hk w h0
    have key : ∀ t : Nat, (t : Int) < mI M s 1 → (A t ∧ ρ t < ρ k) → τ t ≠ 0 := fun t ht w => ih (ρ t) (by omega) t rfl (by omega) w.1
    rcases hR k hk hA hK with ⟨c1, c2, c3⟩ | ⟨c1, c2, c3⟩
    · exact (hτ k hk h0).1 c1 (pl M s k) c2 (hP k hkI (by omega)).2.2 (c3.mono hG hkI c2 key)
    · obtain ⟨i, i1, i2, i3⟩ := (hτ k hk h0).2 c1 c2
      exact i3 ((c3 i i1 i2).mono hG hkI i1 key)
end RK
/-- the unknown states up to i have their rows -/
abbrev nS (s : Nat) : Nat → Prop := fun x => x = s ∨ x = s + 39 ∨ x = s + 40
def EnI (M : mM) (s i c : Nat) (M2 : mM) : Prop := (mOk M2 ∧ FI (nS s) M M2 ∧ (∀ j, j ≠ 24 → mI M2 s j = mI M s j) ∧ mI M2 s 24 = c) ∧ (∀ r, r < c → 0 ≤ mI M2 (s + 39) r ∧ mI M2 (s + 39) r < i ∧ unk M s (mI M2 (s + 39) r).toNat ∧ mI M2 (s + 40) (mI M2 (s + 39) r).toNat = r)
  ∧ (∀ k, k < i → unk M s k → 0 ≤ mI M2 (s + 40) k ∧ mI M2 (s + 40) k < c ∧ mI M2 (s + 39) (mI M2 (s + 40) k).toNat = k) ∧ ∀ f : Nat → Int, sm (fun r => f (mI M2 (s + 39) r).toNat) c = sm (fun k => if unk M s k then f k else 0) i
section VS
variable {G : mG} {d s n : Nat} {M : mM}
theorem en_step {i c : Nat} {M2 M5 : mM} (h : EnI M s i c M2) (hu : unk M s i) (o5 : mOk M5) (f5 : FI (nS s) M2 M5) (h5 : ∀ j, j ≠ 24 → mI M5 s j = mI M2 s j) (h24 : mI M5 s 24 = (c : Int) + 1) (h39 : ∀ r, mI M5 (s + 39) r = if r = c then (i : Int) else mI M2 (s + 39) r) (h40 : ∀ k, mI M5 (s + 40) k = if k = i then (c : Int) else mI M2 (s + 40) k) : EnI M s (i + 1) (c + 1) M5 := by
  obtain ⟨⟨a1, a2, a3, a4⟩, a5, a6, a7⟩ := h
  refine ⟨⟨o5, a2.trans f5, fun j hj => (h5 j hj).trans (a3 j hj), by omega⟩, fun r hr => ?_, fun k hk hk2 => ?_, fun f => ?_⟩
  · rw [h39]
    by_cases q : r = c
    · rw [if_pos q, Int.toNat_natCast, h40, if_pos rfl]
      exact ⟨by omega, by omega, hu, by omega⟩
    · rw [if_neg q]
      obtain ⟨b1, b2, b3, b4⟩ := a5 r (by omega)
      rw [h40, if_neg (by omega)]
      exact ⟨b1, by omega, b3, b4⟩
  · rw [h40]
    by_cases q : k = i
    · rw [if_pos q, Int.toNat_natCast, h39, if_pos rfl]
      omega
    · rw [if_neg q]
      obtain ⟨b1, b2, b3⟩ := a6 k (by omega) hk2
      rw [h39, if_neg (by omega)]
      exact ⟨b1, by omega, b3⟩
  · rw [sm, sm, if_pos hu, ← a7 f, h39, if_pos rfl, Int.toNat_natCast]
    rw [sm_congr (g := fun r => f (mI M2 (s + 39) r).toNat) c (fun r hr => by rw [h39, if_neg (by omega)])]
theorem s_an12 {Q : mM → Prop} (hV : Vk M s) (hn : mI M s 1 = n) (hn5 : n ≤ 512) (h40 : sm (fun k => if unk M s k then 1 else 0) n ≤ 40) (hQ : ∀ m M', m ≤ 40 → EnI M s n m M' → h_MS_answer_77 G d s 1 M' Q) :
    ∀ (t i c : Nat) (M2 : mM), i + t = n → EnI M s i c M2 → h_MS_answer_12 G d s i M2 Q := by
  have hcnt : ∀ i c (M2 : mM), EnI M s i c M2 → i ≤ n → (c : Int) = sm (fun k => if unk M s k then 1 else 0) i ∧ (c : Int) ≤ 40 := fun i c M2 h hi => by
    have e := h.2.2.2 (fun _ => 1)
    have e1 : ∀ c : Nat, sm (fun _ => (1 : Int)) c = c := fun c => by
      induction c with
      | zero => rfl
      | succ c ih => rw [sm, ih]; omega
    have e2 : sm (fun r => (fun _ => (1 : Int)) (mI M2 (s + 39) r).toNat) c = c := e1 c
    rw [e2] at e
    have p := sm_part (f := fun k => if unk M s k then (1 : Int) else 0) (a := i) (n - i) (fun k _ => by show (0 : Int) ≤ if unk M s k then 1 else 0; split <;> omega)
    rw [show i + (n - i) = n by omega] at p
    exact ⟨e, by omega⟩
  intro t
  induction t with
  | zero =>
    intro i c M2 hi h
    have ei : i = n := by omega
    subst ei
    have hc := hcnt i c M2 h (by omega)
    obtain ⟨a1, a2, a3, a4⟩ := h.1
    refine k_MS_answer_12 a1 ⟨by omega, by omega⟩ ?_
    rw [a3 1 (by omega), hn]
    exact ⟨(hV.fi a2).k0, fun _ => hQ c M2 (by omega) h, fun w => by omega⟩
  | succ t ih =>
    intro i c M2 hi h
    have hc := hcnt i c M2 h (by omega)
    obtain ⟨a1, a2, a3, a4⟩ := h.1
    have V2 := hV.fi a2
    have fe := a2.2.2.2.2.2.2
    refine k_MS_answer_12 a1 ⟨by omega, by omega⟩ ?_
    rw [a3 1 (by omega), hn, V2.r19, V2.r4, V2.r22, V2.n36, V2.n22, V2.n39, fe (s + 36) (by omega), fe (s + 22) (by omega), a4, Int.toNat_natCast, Int.toNat_natCast]
    refine ⟨V2.k0, fun w => by omega, fun _ => ⟨V2.k36, by omega, fun _ => ⟨V2.k22, by omega⟩, fun w => ?_, fun w => ?_⟩⟩
    · have hnu : ¬ unk M s i := fun u => by rcases w with w | w; exact u.1 w; exact u.2 w
      refine ih (i + 1) c M2 (by omega) ⟨h.1, fun r hr => ?_, fun k hk hu => ?_, fun f => ?_⟩
      · obtain ⟨b1, b2, b3⟩ := h.2.1 r hr
        exact ⟨b1, by omega, b3⟩
      · have : k ≠ i := fun z => hnu (by rw [← z]; exact hu)
        exact h.2.2.1 k (by omega) hu
      · rw [h.2.2.2 f, sm, if_neg hnu]
        omega
    · have hu : unk M s i := ⟨fun z => w (Or.inl z), fun z => w (Or.inr z)⟩
      have hc1 := hcnt i c M2 h (by omega)
      have hlt : (c : Int) < 40 := by
        have p := sm_part (f := fun k => if unk M s k then (1 : Int) else 0) (a := i + 1) (n - (i + 1)) (fun k _ => by show (0 : Int) ≤ if unk M s k then 1 else 0; split <;> omega)
        rw [show i + 1 + (n - (i + 1)) = n by omega, sm, if_pos hu] at p
        omega
      refine ⟨V2.k39, by omega, fun M3 e3 => ?_⟩
      have f3 : FI (nS s) M2 M3 := by rw [e3]; exact FI.ui (Or.inr (Or.inl rfl))
      have V3 := V2.fi f3
      have s3 : mI M3 s = mI M2 s := by rw [e3]; funext j; rw [mI_UI, if_neg (by omega)]
      rw [V3.r23, V3.n40, s3, a4]
      refine ⟨V3.k40, by omega, fun M4 e4 => ?_⟩
      have f4 : FI (nS s) M3 M4 := by rw [e4]; exact FI.ui (Or.inr (Or.inr rfl))
      have s4 : mI M4 s = mI M2 s := by rw [e4]; funext j; rw [mI_UI, if_neg (by omega), s3]
      rw [s4, a4]
      refine ⟨⟨by omega, by omega⟩, fun M5 e5 => ?_⟩
      have f5 : FI (nS s) M4 M5 := by rw [e5]; exact FI.ui (Or.inl rfl)
      have o5 : mOk M5 := by
        rw [e5]
        refine mOk_UI ?_ ⟨by omega, by omega⟩
        rw [e4]
        refine mOk_UI ?_ ⟨by omega, by omega⟩
        rw [e3]
        exact mOk_UI a1 ⟨by omega, by omega⟩
      refine ih (i + 1) (c + 1) M5 (by omega) (en_step h hu o5 ((f3.trans f4).trans f5) (fun j hj => ?_) ?_ (fun r => ?_) (fun k => ?_))
      · rw [e5, mI_UI, if_neg (fun w => hj w.2), s4]
      · rw [e5, mI_UI, if_pos ⟨rfl, rfl⟩]
      · rw [e5, mI_UI, if_neg (by omega), e4, mI_UI, if_neg (by omega), e3, mI_UI]
        by_cases q : r = c
        · rw [if_pos ⟨rfl, q⟩, if_pos q]
        · rw [if_neg (fun w => q w.2), if_neg q]
      · rw [e5, mI_UI, if_neg (by omega), e4, mI_UI]
        by_cases q : k = i
        · rw [if_pos ⟨rfl, q⟩, if_pos q]
        · rw [if_neg (fun w => q w.2), if_neg q, e3, mI_UI, if_neg (by omega)]
end VS
end
section
/-! The solver: min's best answer. -/
theorem smp_sml {x : Rat} (h : Smp 21 x) : Sml x := by
  obtain ⟨E, z, h0, h1, h2⟩ := h
  exact ⟨E, z, h0, Int.lt_of_lt_of_le h1 (pow_mono (by omega)), h2⟩
theorem smp_b {x : Rat} {k : Nat} (h : Smp k x) : x ≤ 1 ∧ -1 ≤ x := by
  obtain ⟨E, z, -, -, -, h1, h2⟩ := h
  exact ⟨h1, h2⟩
theorem smp_one : Smp 21 1 := ⟨1, 1, by omega, by decide, by grind, by grind, by grind⟩
theorem smp_zero : Smp 21 0 := ⟨1, 0, by omega, by decide, by grind, by grind, by grind⟩
theorem Sy.val {m i : Nat} {p : Nat → Nat → Rat} {N : Nat → Nat → Int} {D : Nat → Int} (h : Sy m p N D) (hi : i < m) : Smp 21 (gq p m i m) := by
  have a := h.q01 hi (k := m) (j := m) (by omega) (by omega)
  obtain ⟨⟨h', g⟩, hp, hD, hE⟩ := h
  obtain ⟨z, hz⟩ := gq_int g hp (k := m) (j := m) (by omega) (by omega) hi
  exact ⟨_, z, det_pos g hp hD m (by omega), (hE i m hi (by omega)).2, hz, a.2, by grind⟩
section MS
variable {n : Nat} {x x' : Nat → Rat} {F : Int}
theorem ms_ex (hF : Fall F) : ∀ (n : Nat), (∀ k, k < n → Smp 21 (x k) ∧ 0 ≤ x k) → ∃ t : Nat, sr x n * (F : Rat) = ((t : Int) : Rat)
  | 0, _ => ⟨0, by show (0 : Rat) * (F : Rat) = 0; grind⟩
  | n + 1, h => by
    obtain ⟨t, ht⟩ := ms_ex hF n (fun k hk => h k (by omega))
    obtain ⟨z, hz⟩ := hF.int (smp_sml (h n (by omega)).1)
    have h0 : (0 : Rat) ≤ (z : Rat) := by
      rw [← hz]
      exact Rat.mul_nonneg (h n (by omega)).2 (Rat.le_of_lt (Rat.intCast_pos.2 hF.1))
    have hz0 : 0 ≤ z := ic_le (by have : ((0 : Int) : Rat) = 0 := rfl; rw [this]; exact h0)
    refine ⟨t + z.toNat, ?_⟩
    rw [sr, show ((t + z.toNat : Nat) : Int) = (t : Int) + z by omega, Rat.intCast_add, ← ht, ← hz]
    grind
theorem ms_lt (hF : Fall F) {t t' : Nat} (h : sr x n * (F : Rat) = ((t : Int) : Rat)) (h' : sr x' n * (F : Rat) = ((t' : Int) : Rat)) (hl : sr x' n < sr x n) : t' < t := by
  have p : (0 : Rat) < (F : Rat) := Rat.intCast_pos.2 hF.1
  have a := Rat.mul_pos (a := sr x n - sr x' n) (b := (F : Rat)) (by grind) p
  have b : ((t' : Int) : Rat) < ((t : Int) : Rat) := by
    rw [← h, ← h']
    grind
  have := ic_lt.1 b
  omega
end MS
abbrev aS (s : Nat) : Nat → Prop := fun x => x = s ∨ (s + 2 ≤ x ∧ x ≤ s + 21) ∨ (s + 35 ≤ x ∧ x ≤ s + 36) ∨ (s + 39 ≤ x ∧ x ≤ s + 40) ∨ (s + 42 ≤ x ∧ x ≤ s + 61) ∨ eS s 88 x ∨ (s + 12868 ≤ x ∧ x ≤ s + 21067)
abbrev bS (s : Nat) : Nat → Prop := fun x => (s + 2 ≤ x ∧ x ≤ s + 21) ∨ x = s + 35 ∨ (s + 42 ≤ x ∧ x ≤ s + 61) ∨ eS s 88 x ∨ (s + 12868 ≤ x ∧ x ≤ s + 21067)
/-- the values that the choices σ give -/
def VL (M : mM) (s n : Nat) (A : Nat → Prop) (σ : Nat → Nat) (x : Nat → Rat) : Prop := (∀ k, k < n → Smp 21 (x k) ∧ 0 ≤ x k) ∧ (∀ k, k < n → mI M (s + 22) k = 3 → x k = 1) ∧ (∀ k, k < n → ¬ A k → mI M (s + 22) k ≠ 3 → x k = 0) ∧ (∀ k, k < n → A k → mI M (s + 22) k ≠ 3 → x k = cw M s (cx M s k (σ k)) x)
  ∧ (∀ z : Nat → Rat, (∀ k, k < n → A k → mI M (s + 22) k ≠ 3 → z k ≤ cw M s (cx M s k (σ k)) z) → (∀ k, k < n → ¬ (A k ∧ mI M (s + 22) k ≠ 3) → z k ≤ x k) → ∀ k, k < n → z k ≤ x k)
  ∧ (∀ z : Nat → Rat, (∀ k, k < n → A k → mI M (s + 22) k ≠ 3 → cw M s (cx M s k (σ k)) z ≤ z k) → (∀ k, k < n → ¬ (A k ∧ mI M (s + 22) k ≠ 3) → x k ≤ z k) → ∀ k, k < n → x k ≤ z k)
/-- the values that max's choices σ give against min's best -/
def Res (M : mM) (s n : Nat) (A : Nat → Prop) (ρ σ : Nat → Nat) (x : Nat → Rat) : Prop := (∀ k, k < n → Smp 21 (x k) ∧ 0 ≤ x k) ∧ (∀ k, k < n → mI M (s + 22) k = 3 → x k = 1) ∧ (∀ k, k < n → ¬ A k → mI M (s + 22) k ≠ 3 → x k = 0) ∧ (∀ k, k < n → A k → mI M (s + 22) k = 1 → x k = cw M s (cx M s k (σ k)) x) ∧ (∀ k, k < n → A k → mI M (s + 22) k = 2 → ∀ i : Nat, (i : Int) < mny M s k → mayP M s k i → x k ≤ cw M s (cx M s k i) x)
  ∧ Rnk M s n A ρ σ ∧ Fix M s n A σ
  ∧ (∀ z : Nat → Rat, (∀ k, k < n → A k → mI M (s + 22) k = 1 → z k ≤ cw M s (cx M s k (σ k)) z) → (∀ k, k < n → A k → mI M (s + 22) k = 2 → ∀ i : Nat, (i : Int) < mny M s k → mayP M s k i → z k ≤ cw M s (cx M s k i) z) → (∀ k, k < n → ¬ A k → z k ≤ 0) → (∀ k, k < n → mI M (s + 22) k = 3 → z k ≤ 1) → ∀ k, k < n → z k ≤ x k)
/-- what stands while min's choices are bettered -/
def AC (M : mM) (s n m : Nat) (ρ : Nat → Nat) (M3 : mM) : Prop := GW M s ∧ GB M s ∧ mI M s 1 = n ∧ m ≤ 40 ∧ LQ M s n ∧ Rnk M s n (mkd M3 s) ρ (pl M s) ∧ Fix M s n (mkd M3 s) (pl M s) ∧ PLo M s ∧ sameW M M3 s ∧ mI M3 s 24 = m ∧ (∀ r, r < m → 0 ≤ mI M3 (s + 39) r ∧ mI M3 (s + 39) r < n ∧ unk M3 s (uu M3 s r) ∧ mI M3 (s + 40) (uu M3 s r) = r) ∧ (∀ k, k < n → unk M3 s k → 0 ≤ mI M3 (s + 40) k ∧ mI M3 (s + 40) k < m ∧ mI M3 (s + 39) (mI M3 (s + 40) k).toNat = k) ∧ ∀ f : Nat → Int, sm (fun r => f (uu M3 s r)) m = sm (fun k => if unk M3 s k then f k else 0) n
def AH (M : mM) (s : Nat) (M3 M2 : mM) : Prop := mOk M2 ∧ Vk M2 s ∧ FI (bS s) M3 M2 ∧ Wk M2 s ∧ Ct M2 s ∧ Rm M2 s 88 ∧ PLo M2 s ∧ ∀ k, mI M (s + 22) k ≠ 2 → mI M2 (s + 35) k = mI M (s + 35) k
section AN
variable {M M3 M2 : mM} {s n m : Nat} {ρ : Nat → Nat}
theorem AH.sw (hA : AC M s n m ρ M3) (h : AH M s M3 M2) : sameW M M2 s :=
  hA.2.2.2.2.2.2.2.2.1.trans (sameW.of h.2.2.1 (by omega) (fun x _ _ => by omega) (by omega))
theorem AH.sy (hA : AC M s n m ρ M3) (h : AH M s M3 M2) : Enu M2 s m ∧ Sy m (rowp M2 s m) (rowN M2 s m) (rowD M2 s) := by
  have hw := AH.sw hA h
  obtain ⟨hG, hC, hn, hm, hL, hR, hF, hP, -, h24, e1, e2, e3⟩ := hA
  obtain ⟨o2, V2, f2, W2, T2, R2, P2, h2⟩ := h
  have fe := f2.2.2.2.2.2.2
  have i36 : mI M2 (s + 36) = mI M3 (s + 36) := fe _ (by omega)
  have i39 : mI M2 (s + 39) = mI M3 (s + 39) := fe _ (by omega)
  have i40 : mI M2 (s + 40) = mI M3 (s + 40) := fe _ (by omega)
  have i22 : mI M2 (s + 22) = mI M3 (s + 22) := fe _ (by omega)
  have i22' : mI M2 (s + 22) = mI M (s + 22) := hw.1.2.2.2 _ (by omega) (by omega)
  have hu : ∀ k, unk M2 s k ↔ unk M3 s k := fun k => by unfold unk; rw [i36, i22]
  have huu : uu M2 s = uu M3 s := by funext r; unfold uu; rw [i39]
  have hG2 := hw.1.gw hG
  have hC2 := hw.1.gb hC
  have hn2 : mI M2 s 1 = n := by rw [hw.1.1]; exact hn
  have hcmd : ∀ k, k < n → unk M3 s k → (mI M (s + 22) k = 1 ∨ mI M (s + 22) k = 2) ∧ 0 < mny M s k := fun k hk hk2 => by
    rcases hR k hk hk2.1 (by rw [← i22', i22]; exact hk2.2) with ⟨c1, c2, -⟩ | ⟨c1, c2, -⟩
    · exact ⟨Or.inl c1, by omega⟩
    · exact ⟨Or.inr c1, c2⟩
  have hE : Enu M2 s m := by
    refine ⟨fun r hr => ?_, fun k hk hk2 => ?_, fun r hr => ?_, fun k hk h3 => ?_⟩
    · obtain ⟨a1, a2, a3, a4⟩ := e1 r hr
      rw [huu, i39, i40, hn2]
      exact ⟨a1, a2, (hu _).2 a3, a4⟩
    · rw [i40, i39]
      exact e2 k (by omega) ((hu k).1 hk2)
    · obtain ⟨a1, a2, a3, a4⟩ := e1 r hr
      rw [huu]
      have hk : uu M3 s r < n := by unfold uu; omega
      have a := hcmd _ hk a3
      have b := P2 (uu M3 s r) (by omega) (by rw [hw.1.hm]; exact a.2)
      exact ⟨b.1, b.2.1⟩
    · rw [i36]
      exact hF.1 k (by omega) (by rw [← i22']; exact h3)
  obtain ⟨τ, w, l1, l2, l3, l4, l5, l6⟩ := hL
  have hsub := ins_sub hG hn hP hR l1 l2
  have hrow : ∀ r, r < m → uu M2 s r < n ∧ mkd M3 s (uu M2 s r) ∧ mI M (s + 22) (uu M2 s r) ≠ 3 ∧ (pl M2 s (uu M2 s r) : Int) < mny M s (uu M2 s r) ∧ mayP M s (uu M2 s r) (pl M2 s (uu M2 s r)) ∧ LD M s (uu M2 s r) (pl M2 s (uu M2 s r)) (fun t => mkd M3 s t ∧ ρ t < ρ (uu M2 s r)) := fun r hr => by
    obtain ⟨c1, c2, c3, c4⟩ := hE.cmd hG2 hr
    have hk : uu M2 s r < n := by omega
    have hk2 := (hu _).1 (hE.1 r hr).2.2.1
    have h3 : mI M (s + 22) (uu M2 s r) ≠ 3 := by rw [← i22', i22]; exact hk2.2
    rw [hw.1.hm] at c3
    have hmy := (P2 _ c1 (by rw [hw.1.hm]; omega)).2.2
    rw [hw.may] at hmy
    refine ⟨hk, hk2.1, h3, c3, hmy, ?_⟩
    rcases hR _ hk hk2.1 h3 with ⟨d1, d2, d3⟩ | ⟨d1, d2, d3⟩
    · have e : pl M2 s (uu M2 s r) = pl M s (uu M2 s r) := by unfold pl; rw [h2 _ (by omega)]
      rw [e]
      exact d3
    · exact d3 _ c3 hmy
  refine ⟨hE, rowp_sy (ρ := ρ) (w := fun r => w (uu M2 s r)) hE hG2 hC2 (fun r hr => ?_) (fun r hr => ?_) ?_⟩
  · obtain ⟨b, b1, b2, b3⟩ := (hrow r hr).2.2.2.2.2
    have e : rwc M2 s r = cx M s (uu M2 s r) (pl M2 s (uu M2 s r)) := by unfold rwc; rw [hw.1.hx]
    rw [e, hw.1.hn, hw.1.ht, hw.1.hb, i36]
    exact ⟨b, b1, b2, b3⟩
  · obtain ⟨g1, g2, g3, g4, g5, -⟩ := hrow r hr
    have a := l3 _ g1 (hsub _ g1 g2) g3
    refine ⟨a.1, ?_⟩
    have e : rowD M2 s r = mI M (s + 24) (cx M s (uu M2 s r) (pl M2 s (uu M2 s r))) := by unfold rowD rwc; rw [hw.1.hx, hw.1.2.2.2 (s + 24) (by omega) (by omega)]
    rw [e]
    exact a.2 _ g4 g5
  · rw [huu, e3 w]
    refine Int.le_trans (sm_le n (fun k hk => ?_)) l5
    have := l4 k hk
    split <;> omega
theorem AH.vl (hA : AC M s n m ρ M3) (h : AH M s M3 M2) : VL M s n (mkd M3 s) (pl M2 s) (valx M2 s m) := by
  have hw := AH.sw hA h
  obtain ⟨hE, hS⟩ := AH.sy hA h
  obtain ⟨hG, hC, hn, hm, -⟩ := hA
  have f2 := h.2.2.1
  have fe := f2.2.2.2.2.2.2
  have i36 : mI M2 (s + 36) = mI M3 (s + 36) := fe _ (by omega)
  have i22 : mI M2 (s + 22) = mI M (s + 22) := hw.1.2.2.2 _ (by omega) (by omega)
  have hG2 := hw.1.gw hG
  have hC2 := hw.1.gb hC
  have hn2 : mI M2 s 1 = n := by rw [hw.1.1]; exact hn
  have hu : ∀ k, unk M2 s k ↔ (mkd M3 s k ∧ mI M (s + 22) k ≠ 3) := fun k => by unfold unk; rw [i36, i22]
  refine ⟨fun k hk => ⟨?_, (valx_01 hE hS (by omega)).1⟩, fun k hk h3 => ?_, fun k hk hnA h3 => ?_, fun k hk hAk h3 => ?_, fun z h1 h2 k hk => ?_, fun z h1 h2 k hk => ?_⟩
  · by_cases q : mI M2 (s + 36) k ≠ 0 ∧ mI M2 (s + 22) k ≠ 3
    · rw [valx_y q]
      obtain ⟨r1, r2, r3⟩ := hE.2.1 k (by omega) q
      exact hS.val (by omega)
    · rw [valx_n q]
      split
      · exact smp_one
      · exact smp_zero
  · rw [valx_n (fun w => w.2 (by rw [i22]; exact h3)), i22, if_pos h3]
  · rw [valx_n (fun w => hnA (by have := w.1; rw [i36] at this; exact this)), i22, if_neg h3]
  · have e := valx_eq hE hG2 hS (k := k) (by omega) ((hu k).2 ⟨hAk, h3⟩)
    rw [hw.1.hw, hw.1.hx] at e
    exact e
  · refine sub_le hE hG2 hC2 hS (x := z) (fun j hj hj2 => ?_) (fun j hj hj2 => ?_) k (by omega)
    · have a := (hu j).1 hj2
      rw [hw.1.hw, hw.1.hx]
      exact h1 j (by omega) a.1 a.2
    · exact h2 j (by omega) (fun w => hj2 ((hu j).2 w))
  · refine sup_ge hE hG2 hC2 hS (x := z) (fun j hj hj2 => ?_) (fun j hj hj2 => ?_) k (by omega)
    · have a := (hu j).1 hj2
      rw [hw.1.hw, hw.1.hx]
      exact h1 j (by omega) a.1 a.2
    · exact h2 j (by omega) (fun w => hj2 ((hu j).2 w))
end AN
end
section
/-! The solver: answer. -/
def anQ (M : mM) (s n : Nat) (M' : mM) : Prop := mOk M' ∧ FI (aS s) M M' ∧ (∀ j, j ≠ 24 → mI M' s j = mI M s j) ∧ Wk M' s ∧ Ct M' s ∧ Rm M' s 88 ∧ PLo M' s ∧ (∀ k, mI M (s + 22) k ≠ 2 → mI M' (s + 35) k = mI M (s + 35) k) ∧ ∃ (A : Nat → Prop) (ρ : Nat → Nat) (x : Nat → Rat), Xt M' s 88 n x ∧ Res M s n A ρ (pl M s) x
theorem PLo.out {M M' : mM} {s : Nat} (h : PLo M s) (w : sameW M M' s) (e : mI M' (s + 35) = mI M (s + 35)) : PLo M' s := by
  unfold PLo pl at h ⊢
  rw [w.1.hm, w.may, w.1.1, e]
  exact h
section AN
variable {G : mG} {d s n m : Nat} {M M3 : mM} {ρ : Nat → Nat} {F : Int}
theorem an_settle {M5 : mM} {Q : mM → Prop} (hA : AC M s n m ρ M3) (h : AH M s M3 M5) (hQ : ∀ M6 x, AH M s M3 M6 → Xt M6 s 88 n x → VL M s n (mkd M3 s) (pl M6 s) x → pl M6 s = pl M5 s → h_MS_answer_89 G (d + 7) s 0 0 M6 Q) : h_MS_answer_77 G (d + 7) s 1 M5 Q := by
  have hw := AH.sw hA h
  have hv := AH.vl hA h
  obtain ⟨hE, hS⟩ := AH.sy hA h
  obtain ⟨hG, hC, hn, hm, -, -, -, -, -, h24, -⟩ := hA
  obtain ⟨o2, V2, f2, W2, T2, R2, P2, h2⟩ := h
  have hG2 := hw.1.gw hG
  have hn2 : mI M5 s 1 = n := by rw [hw.1.1]; exact hn
  have h24' : mI M5 s 24 = m := by rw [f2.2.2.2.2.2.2 s (by omega)]; exact h24
  refine k_MS_answer_77 o2 ⟨by omega, by omega⟩ ⟨fun w => by omega, fun _ => ⟨V2.k0, (s_MS_settle (d := d) hm o2 V2 hG2 (hw.1.gb hC) hn2 h24' hE hS W2 T2 R2).mono (fun M6 h6 => ?_)⟩⟩
  obtain ⟨o6, f6, W6, T6, R6, X6⟩ := h6
  have e35 : mI M6 (s + 35) = mI M5 (s + 35) := f6.2.2.2.2.2.2 _ (by omega)
  have ep : pl M6 s = pl M5 s := by funext k; unfold pl; rw [e35]
  refine ⟨o6, hQ M6 _ ⟨o6, V2.fi f6, f2.trans (f6.mono (fun y q => by omega)), W6, T6, R6, P2.out (sameW.of f6 (by omega) (fun x _ _ => by omega) (by omega)) e35, fun k hk => by rw [e35]; exact h2 k hk⟩ X6 (by rw [ep]; exact hv) ep⟩
theorem s_an89 {Q : mM → Prop} (hF : Fall F) (hA : AC M s n m ρ M3) (hQ : ∀ M' x, AH M s M3 M' → Xt M' s 88 n x → Res M s n (mkd M3 s) ρ (pl M s) x → Q M') : ∀ (t : Nat) (x : Nat → Rat) (M2 : mM), AH M s M3 M2 → Xt M2 s 88 n x → VL M s n (mkd M3 s) (pl M2 s) x → sr x n * (F : Rat) = ((t : Int) : Rat) → h_MS_answer_89 G (d + 7) s 0 0 M2 Q := by
  have hAC := hA
  obtain ⟨hG, hC, hn, hm, hL, hR, hFx, hP, hw3, h24, e1, e2, e3⟩ := hA
  have hn5 := hG.2.1
  have i22 : mI M3 (s + 22) = mI M (s + 22) := hw3.1.2.2.2 _ (by omega) (by omega)
  intro t
  induction t using Nat.strongRecOn with
  | ind t ih =>
    intro x M2 h2 X2 v2 ht
    have h01 : ∀ t, t < n → 0 ≤ x t ∧ x t ≤ 1 := fun t ht => ⟨(v2.1 t ht).2, (smp_b (v2.1 t ht).1).1⟩
    suffices H : ∀ (c r : Nat) (f : Int) (M5 : mM), r + c = m → AH M s M3 M5 → Xt M5 s 88 n x → ((f = 0 ∧ mI M5 (s + 35) = mI M2 (s + 35) ∧ ∀ r', r' < r → mI M (s + 22) (uu M3 s r') = 2 → ∀ i : Nat, (i : Int) < mny M s (uu M3 s r') → mayP M s (uu M3 s r') i → ¬ cw M s (cx M s (uu M3 s r') i) x < x (uu M3 s r')) ∨ (f = 1 ∧ (∀ k, k < n → mkd M3 s k → mI M (s + 22) k ≠ 3 → cw M s (cx M s k (pl M5 s k)) x ≤ x k) ∧ ∃ k, k < n ∧ mkd M3 s k ∧ mI M (s + 22) k ≠ 3 ∧ cw M s (cx M s k (pl M5 s k)) x < x k)) → h_MS_answer_89 G (d + 7) s f r M5 Q from
      H m 0 0 M2 (by omega) h2 X2 (Or.inl ⟨rfl, rfl, fun r' hr' => by omega⟩)
    intro c
    induction c with
    | zero =>
      intro r f M5 hr h5 X5 hf
      have er : r = m := by omega
      subst er
      have hf01 : f = 0 ∨ f = 1 := by rcases hf with q | q; exact Or.inl q.1; exact Or.inr q.1
      have e24 : mI M5 s 24 = r := by rw [h5.2.2.1.2.2.2.2.2.2 s (by omega)]; exact h24
      refine k_MS_answer_89 h5.1 ⟨by omega, by omega⟩ ⟨by omega, by omega⟩ ?_
      rw [e24]
      refine ⟨h5.2.1.k0, fun _ => ?_, fun w => by omega⟩
      rcases hf with ⟨q1, q2, q3⟩ | ⟨q1, q2, k, q3, q4, q5, q6⟩
      · subst q1
        refine k_MS_answer_77 h5.1 ⟨by omega, by omega⟩ ⟨fun _ => hQ M5 x h5 X5 ?_, fun w => absurd rfl w⟩
        obtain ⟨v1, v3, v4, v5, v6, -⟩ := v2
        have ep : pl M5 s = pl M2 s := by funext k; unfold pl; rw [q2]
        have hmax : ∀ k, mI M (s + 22) k = 1 → pl M2 s k = pl M s k := fun k hk => by unfold pl; rw [h2.2.2.2.2.2.2.2 k (by omega)]
        have hP2 : ∀ k, k < n → 0 < mny M s k → (pl M2 s k : Int) < mny M s k ∧ mayP M s k (pl M2 s k) := fun k hk hp => by
          have hw2 := AH.sw hAC h2
          have a := h2.2.2.2.2.2.2.1 k (by rw [hw2.1.1]; omega) (by rw [hw2.1.hm]; exact hp)
          rw [hw2.1.hm, hw2.may] at a
          exact ⟨by unfold pl; omega, a.2.2⟩
        refine ⟨v1, v3, v4, fun k hk hk2 hk1 => ?_, fun k hk hk2 hk1 i hi hmi => ?_, hR, hFx, fun z z1 z2 z3 z4 => v6 z (fun k hk hk2 hk3 => ?_) (fun k hk hk2 => ?_)⟩
        · rw [← hmax k hk1]
          exact v5 k hk hk2 (by omega)
        · obtain ⟨b1, b2, b3⟩ := e2 k hk ⟨hk2, by rw [i22]; omega⟩
          have euj : uu M3 s (mI M3 (s + 40) k).toNat = k := by unfold uu; omega
          have a := q3 (mI M3 (s + 40) k).toNat (by omega)
          rw [euj] at a
          have b := a hk1 i hi hmi
          grind
        · rcases hR k hk hk2 hk3 with ⟨c1, c2, -⟩ | ⟨c1, c2, -⟩
          · rw [hmax k c1]
            exact z1 k hk hk2 c1
          · have p := hP2 k hk c2
            exact z2 k hk hk2 c1 _ p.1 p.2
        · by_cases w3 : mI M (s + 22) k = 3
          · rw [v3 k hk w3]
            exact z4 k hk w3
          · have hnA : ¬ mkd M3 s k := fun w => hk2 ⟨w, w3⟩
            rw [v4 k hk hnA w3]
            exact z3 k hk hnA
      · subst q1
        refine an_settle hAC h5 (fun M6 x' h6 X6 v6 ep => ?_)
        obtain ⟨t', ht'⟩ := ms_ex hF n v6.1
        have hle : ∀ k, k < n → x' k ≤ x k := v6.2.2.2.2.2 x (fun j hj hj2 hj3 => by rw [ep]; exact q2 j hj hj2 hj3) (fun j hj hj2 => by
          by_cases w3 : mI M (s + 22) j = 3
          · rw [v6.2.1 j hj w3, v2.2.1 j hj w3]
            exact Rat.le_refl
          · have hnA : ¬ mkd M3 s j := fun w => hj2 ⟨w, w3⟩
            rw [v6.2.2.1 j hj hnA w3, v2.2.2.1 j hj hnA w3]
            exact Rat.le_refl)
        have hlt : x' k < x k := by
          have a := v6.2.2.2.1 k q3 q4 q5
          rw [ep] at a
          have hk5 := h5.2.2.2.2.2.2.1
          have hw5 := AH.sw hAC h5
          have hpos : 0 < mny M s k := by
            rcases hR k q3 q4 q5 with ⟨c1, c2, -⟩ | ⟨c1, c2, -⟩
            · omega
            · exact c2
          have p := hk5 k (by rw [hw5.1.1]; omega) (by rw [hw5.1.hm]; exact hpos)
          rw [hw5.1.hm] at p
          have hcx := cx_lt hG (k := k) (i := pl M5 s k) (by omega) (by unfold pl; omega)
          have b := cw_le hC hcx (f := x') (g := x) (fun b hb => hle _ (by have := tg_lt hG hcx hb; omega))
          grind
        have hs : sr x' n < sr x n := sr_lt n hle ⟨k, q3, hlt⟩
        exact ih t' (ms_lt hF ht ht' hs) x' M6 h6 X6 v6 ht'
    | succ c ihc =>
      intro r f M5 hr h5 X5 hf
      have hrm : r < m := by omega
      have hf01 : f = 0 ∨ f = 1 := by rcases hf with q | q; exact Or.inl q.1; exact Or.inr q.1
      have hw5 := AH.sw hAC h5
      obtain ⟨o5, V5, f5, W5, T5, R5, P5, k5⟩ := id h5
      have fe5 := f5.2.2.2.2.2.2
      have e24 : mI M5 s 24 = m := by rw [fe5 s (by omega)]; exact h24
      obtain ⟨a1, a2, a3, a4⟩ := e1 r hrm
      have huu : (uu M3 s r : Int) = mI M3 (s + 39) r := by unfold uu; omega
      refine k_MS_answer_89 o5 ⟨by omega, by omega⟩ ⟨by omega, by omega⟩ ?_
      rw [e24, V5.r22, V5.n39, fe5 (s + 39) (by omega), Int.toNat_natCast, ← huu]
      refine ⟨V5.k0, fun w => by omega, fun _ => ⟨V5.k39, by omega, (s_MS_improve (d := d + 1) (Or.inr rfl) o5 V5 (hw5.1.gw hG) (hw5.1.gb hC) (by rw [hw5.1.1]; exact hn) (by rw [hw5.1.1]; omega) W5 X5 h01).mono (fun y M6 h6 => ?_)⟩⟩
      obtain ⟨o6, W6, f6, hy⟩ := h6
      have w56 : sameW M5 M6 s := sameW.of f6 (by omega) (fun x _ _ => by omega) (by omega)
      have i22' : mI M5 (s + 22) = mI M (s + 22) := hw5.1.2.2.2 _ (by omega) (by omega)
      rw [i22', hw5.1.hm, hw5.may] at hy
      have hbet : ∀ k i, betP M5 s x 2 k i ↔ cw M s (cx M s k i) x < x k := fun k i => by
        unfold betP
        rw [if_neg (by omega), hw5.1.hw, hw5.1.hx]
      have hk : uu M3 s r < n := by omega
      have a3' : mI M (s + 22) (uu M3 s r) ≠ 3 := by rw [← i22]; exact a3.2
      rcases hy with ⟨y1, y2, y3⟩ | ⟨y1, y2, i, y3, y4, y5, y6⟩
      · subst y1
        have ep : pl M6 s = pl M5 s := by funext k; unfold pl; rw [y2]
        refine ⟨⟨by omega, by omega⟩, o6, fun v hv => ?_⟩
        have hvf : v = f := by split at hv <;> omega
        subst hvf
        refine ihc (r + 1) v M6 (by omega) ⟨o6, V5.fi f6, f5.trans (f6.mono (fun y q => by omega)), W6, T5.out f6 (fun y q => by omega), R5.out f6 (fun y q => by omega), P5.out w56 y2, fun k hk => by rw [y2]; exact k5 k hk⟩ (X5.out f6 (fun y q => by omega)) ?_
        rcases hf with ⟨q1, q2, q3⟩ | ⟨q1, q2, q3⟩
        · left
          refine ⟨q1, y2.trans q2, fun r' hr' c2 i hi hmi => ?_⟩
          by_cases z : r' = r
          · subst z
            exact fun w => y3 c2 i hi hmi ((hbet _ _).2 w)
          · exact q3 r' (by omega) c2 i hi hmi
        · right
          rw [ep]
          exact ⟨q1, q2, q3⟩
      · subst y1
        have hlt := (hbet _ _).1 y5
        have epl : ∀ k, pl M6 s k = if k = uu M3 s r then i else pl M5 s k := fun k => by
          unfold pl
          rw [y6]
          by_cases z : k = uu M3 s r
          · rw [if_pos z, if_pos z]; omega
          · rw [if_neg z, if_neg z]
        refine ⟨⟨by omega, by omega⟩, o6, fun v hv => ?_⟩
        have hv1 : v = 1 := by split at hv <;> omega
        subst hv1
        have P6 : PLo M6 s := by
          intro k hk1 hk2
          rw [w56.1.1] at hk1
          rw [w56.1.hm] at hk2 ⊢
          rw [w56.may, epl, y6]
          by_cases z : k = uu M3 s r
          · rw [if_pos z, if_pos z, z, hw5.1.hm, hw5.may]
            exact ⟨by omega, y3, y4⟩
          · rw [if_neg z, if_neg z]
            exact P5 k hk1 hk2
        refine ihc (r + 1) 1 M6 (by omega) ⟨o6, V5.fi f6, f5.trans (f6.mono (fun y q => by omega)), W6, T5.out f6 (fun y q => by omega), R5.out f6 (fun y q => by omega), P6, fun k hk => by
          rw [y6, if_neg (fun z => hk (by rw [z]; exact y2))]
          exact k5 k hk⟩ (X5.out f6 (fun y q => by omega)) (Or.inr ⟨rfl, fun k hk hk2 hk3 => ?_, uu M3 s r, hk, a3.1, a3', ?_⟩)
        · rw [epl]
          by_cases z : k = uu M3 s r
          · rw [if_pos z, z]
            grind
          · rw [if_neg z]
            rcases hf with ⟨q1, q2, q3⟩ | ⟨q1, q2, q3⟩
            · have ep : pl M5 s = pl M2 s := by funext k; unfold pl; rw [q2]
              rw [ep, ← v2.2.2.2.1 k hk hk2 hk3]
              exact Rat.le_refl
            · exact q2 k hk hk2 hk3
        · rw [epl, if_pos rfl]
          exact hlt
end AN
end
section
/-! The solver: answer, the whole. -/
section AN
variable {G : mG} {d s n : Nat} {M : mM} {F : Int}
theorem s_MS_answer (hF : Fall F) (hO : mOk M) (hV : Vk M s) (hG : GW M s) (hC : GB M s) (hn : mI M s 1 = n) (hW : Wk M s) (hT : Ct M s) (hR : Rm M s 88) (hP : PLo M s) (hL : LQ M s n) :
    Cv G y_MS_answer (d + 8) [vr s] M (anQ M s n) := by
  have h2 := hG.2.1
  refine k_MS_answer hO ⟨hV.k0, (s_MS_grow (d := d + 5) ⟨by omega, by omega⟩ hO hV hG).mono (fun M1 h1 => ?_)⟩
  have hfx := gv_fix hG hn hP h1
  obtain ⟨⟨ρ, t, g1⟩, -⟩ := h1
  have hrk := gv_rnk hG hn g1
  obtain ⟨o1, f1, -⟩ := g1
  have V1 := hV.fi f1
  have fe1 := f1.2.2.2.2.2.2
  refine ⟨o1, V1.k0, fun M2 e2 => ?_⟩
  have f2 : FI (fun x => x = s) M1 M2 := by rw [e2]; exact FI.ui rfl
  have fe2 := f2.2.2.2.2.2.2
  have o2 : mOk M2 := by rw [e2]; exact mOk_UI o1 ⟨by omega, by omega⟩
  have V2 := V1.fi f2
  have s2 : ∀ j, j ≠ 24 → mI M2 s j = mI M s j := fun j hj => by rw [e2, mI_UI, if_neg (fun w => hj w.2), fe1 s (by omega)]
  have s24 : mI M2 s 24 = 0 := by rw [e2, mI_UI, if_pos ⟨rfl, rfl⟩]
  have i36 : mI M2 (s + 36) = mI M1 (s + 36) := fe2 _ (by omega)
  have i22 : mI M2 (s + 22) = mI M (s + 22) := by rw [fe2 _ (by omega), fe1 _ (by omega)]
  have hn2 : mI M2 s 1 = n := by rw [s2 1 (by omega)]; exact hn
  have h40 : sm (fun k => if unk M2 s k then 1 else 0) n ≤ 40 := by
    obtain ⟨τ, w, l1, l2, l3, l4, l5, l6⟩ := hL
    have hsub := ins_sub hG hn hP hrk l1 l2
    refine Int.le_trans (sm_le n (fun k hk => ?_)) l6
    by_cases q : unk M2 s k
    · have q1 : mkd M1 s k := by have := q.1; rw [i36] at this; exact this
      have q2 : mI M (s + 22) k ≠ 3 := by have := q.2; rw [i22] at this; exact this
      rw [if_pos q, if_pos ⟨hsub k hk q1, q2⟩]
      omega
    · rw [if_neg q]
      split <;> omega
  refine s_an12 (G := G) (d := d + 7) V2 hn2 (by omega) h40 (fun m M3 hm h3 => ?_) n 0 0 M2 (by omega) ⟨⟨o2, FI.refl, fun j _ => rfl, s24⟩, fun r hr => by omega, fun k hk => by omega, fun f => rfl⟩
  obtain ⟨⟨o3, f3, s3, s34⟩, e1, e3, e4⟩ := h3
  have fe3 := f3.2.2.2.2.2.2
  have V3 := V2.fi f3
  have j36 : mI M3 (s + 36) = mI M1 (s + 36) := by rw [fe3 _ (by omega), i36]
  have j22 : mI M3 (s + 22) = mI M (s + 22) := by rw [fe3 _ (by omega), i22]
  have hmk : mkd M3 s = mkd M1 s := by funext k; unfold mkd; rw [j36]
  have hu : ∀ k, unk M2 s k ↔ unk M3 s k := fun k => by unfold unk; rw [j36, j22, i36, i22]
  have hfar : ∀ x, x ≠ s → x ≠ s + 36 → x ≠ s + 39 → x ≠ s + 40 → mI M3 x = mI M x := fun x w1 w2 w3 w4 => by rw [fe3 x (by omega), fe2 x w1, fe1 x w2]
  have hs3 : ∀ j, j ≠ 24 → mI M3 s j = mI M s j := fun j hj => (s3 j hj).trans (s2 j hj)
  have hsw : sameW M M3 s := ⟨⟨hs3 1 (by omega), hs3 2 (by omega), hs3 3 (by omega), fun x a b => hfar x (by omega) (by omega) (by omega) (by omega)⟩, hs3 17 (by omega), hfar _ (by omega) (by omega) (by omega) (by omega)⟩
  have f03 : FI (aS s) M M3 := ((f1.mono (fun y q => by omega)).trans (f2.mono (fun y q => by omega))).trans (f3.mono (fun y q => by omega))
  have hAC : AC M s n m ρ M3 := by
    refine ⟨hG, hC, hn, hm, hL, by rw [hmk]; exact hrk, by rw [hmk]; exact hfx, hP, hsw, s34, fun r hr => ?_, fun k hk hk2 => e3 k hk ((hu k).2 hk2), fun f => ?_⟩
    · obtain ⟨a1, a2, a3, a4⟩ := e1 r hr
      exact ⟨a1, a2, (hu _).1 a3, a4⟩
    · have a := e4 f
      have b : sm (fun r => f (uu M3 s r)) m = sm (fun r => f (mI M3 (s + 39) r).toNat) m := rfl
      rw [b, a]
      refine sm_congr n (fun k hk => ?_)
      by_cases q : unk M2 s k
      · rw [if_pos q, if_pos ((hu k).1 q)]
      · rw [if_neg q, if_neg (fun w => q ((hu k).2 w))]
  have e35 : mI M3 (s + 35) = mI M (s + 35) := hfar _ (by omega) (by omega) (by omega) (by omega)
  have hAH : AH M s M3 M3 := by
    refine ⟨o3, V3, FI.refl, ?_, ?_, ?_, hP.out hsw e35, fun k _ => by rw [e35]⟩
    · exact ((hW.far f1 (fun y q => by omega)).far f2 (fun y q => by omega)).far f3 (fun y q => by omega)
    · exact ((hT.out f1 (fun y q => by omega)).out f2 (fun y q => by omega)).out f3 (fun y q => by omega)
    · exact ((hR.out f1 (fun y q => by omega)).out f2 (fun y q => by omega)).out f3 (fun y q => by omega)
  refine an_settle hAC hAH (fun M6 x h6 X6 v6 _ => ?_)
  obtain ⟨t', ht'⟩ := ms_ex hF n v6.1
  refine s_an89 hF hAC (fun M' x' h' X' r' => ?_) t' x M6 h6 X6 v6 ht'
  obtain ⟨o7, V7, f7, W7, T7, R7, P7, k7⟩ := h'
  have fe7 := f7.2.2.2.2.2.2
  exact ⟨o7, f03.trans (f7.mono (fun y q => by omega)), fun j hj => by rw [fe7 s (by omega)]; exact hs3 j hj, W7, T7, R7, P7, k7, _, ρ, x', X', r'⟩
end AN
end
section
/-! The solver: a better choice of max raises the values. -/
section RU
variable {M M' : mM} {s n : Nat} {A A' : Nat → Prop} {ρ ρ' σ σ' : Nat → Nat} {x y : Nat → Rat}
theorem Res.sw (h : Res M s n A ρ σ x) (w : sameW M M' s) : Res M' s n A ρ σ x := by
  unfold Res Rnk Fix at h ⊢
  rw [w.1.hm, w.may, w.1.hld, w.1.hx, w.1.hw, w.1.2.2.2 (s + 22) (by omega) (by omega)]
  exact h
theorem Res.sig (h : Res M s n A ρ σ x) (w : ∀ k, mI M (s + 22) k = 1 → σ' k = σ k) : Res M s n A ρ σ' x := by
  obtain ⟨h1, h2, h3, h4, h5, h6, h7, h8⟩ := h
  refine ⟨h1, h2, h3, fun k hk hA h => by rw [w k h]; exact h4 k hk hA h, h5, fun k hk hA h => ?_, ⟨h7.1, fun k hk hA => ⟨fun c => by rw [w k c]; exact (h7.2 k hk hA).1 c, (h7.2 k hk hA).2⟩⟩, fun z z1 z2 z3 z4 => h8 z (fun k hk hA c => by rw [← w k c]; exact z1 k hk hA c) z2 z3 z4⟩
  rcases h6 k hk hA h with c | c
  · left
    rw [w k c.1]
    exact c
  · exact Or.inr c
theorem res_up (hG : GW M s) (hC : GB M s) (hn : mI M s 1 = n) (h : Res M s n A ρ σ x) (h' : Res M s n A' ρ' σ' y) {k : Nat} (hk : k < n) (h1 : mI M (s + 22) k = 1) (hi : (σ' k : Int) < mny M s k) (hb : x k < cw M s (cx M s k (σ' k)) x) (hs : ∀ j, mI M (s + 22) j = 1 → j ≠ k → σ' j = σ j) : (∀ j, j < n → x j ≤ y j) ∧ x k < y k := by
  obtain ⟨a1, a2, a3, a4, a5, a6, a7, a8⟩ := h
  obtain ⟨b1, b2, b3, b4, b5, b6, b7, b8⟩ := h'
  have u0 := up0 hG hC hn (x := x) a6 b7.1 b7.2 a3 a4 a5 (fun j hj c => by
    by_cases z : j = k
    · subst z; exact Or.inr ⟨hi, hb⟩
    · exact Or.inl (hs j c z))
  have hnn : ∀ (j i : Nat), j < n → (i : Int) < mny M s j → 0 ≤ cw M s (cx M s j i) x := fun j i hj hi => by
    have hcx := cx_lt hG (k := j) (i := i) (by omega) hi
    have a := cw_le hC hcx (f := fun _ => 0) (g := x) (fun b hb => (a1 _ (by have := tg_lt hG hcx hb; omega)).2)
    rw [cw_const hC hcx] at a
    exact a
  have hle : ∀ j, j < n → x j ≤ y j := by
    refine b8 x (fun j hj hA c => ?_) (fun j hj hA c i hi hm => ?_) u0 (fun j hj c => by rw [a2 j hj c]; exact Rat.le_refl)
    · by_cases z : j = k
      · subst z
        exact Rat.le_of_lt hb
      · rw [hs j c z]
        by_cases w : A j
        · rw [← a4 j hj w c]
          exact Rat.le_refl
        · rw [a3 j hj w (by omega)]
          have hin : (σ j : Int) < mny M s j := by
            rcases b6 j hj hA (by omega) with q | q
            · rw [← hs j c z]; exact q.2.1
            · omega
          exact hnn j (σ j) hj hin
    · by_cases w : A j
      · exact a5 j hj w c i hi hm
      · rw [a3 j hj w (by omega)]
        exact hnn j i hj hi
  refine ⟨hle, ?_⟩
  have hkI : (k : Int) < mI M s 1 := by omega
  have hA' : A' k := by
    refine Classical.byContradiction (fun w => ?_)
    have l := (b7.2 k hk w).1 h1 hi
    have c := cw_below (x := x) hG hC hkI hi (c := 0) (T := fun t => ¬ A' t) (fun t ht ha => u0 t (by omega) ha) (fun ⟨b, w1, w2⟩ => l ⟨b, w1, Classical.byContradiction (fun w3 => w2 w3)⟩)
    have d := (a1 k hk).2
    have e := c.1
    grind
  have hcx := cx_lt hG hkI hi
  have e := cw_le hC hcx (f := x) (g := y) (fun b hb => hle _ (by have := tg_lt hG hcx hb; omega))
  rw [b4 k hk hA' h1]
  grind
end RU
/-- how far the values are from one -/
theorem smp_co {x : Rat} (h : Smp 21 x) (h0 : 0 ≤ x) : Smp 21 (1 - x) ∧ 0 ≤ 1 - x := by
  obtain ⟨E, z, e0, e1, e2, e3, e4⟩ := h
  refine ⟨⟨E, E - z, e0, e1, ?_, by grind, by grind⟩, by grind⟩
  rw [Rat.intCast_sub, ← e2]
  grind
theorem sr_co_lt {n : Nat} {x y : Nat → Rat} (h : ∀ j, j < n → x j ≤ y j) {k : Nat} (hk : k < n) (hl : x k < y k) : sr (fun j => 1 - y j) n < sr (fun j => 1 - x j) n := by
  refine sr_lt n (fun j hj => ?_) ⟨k, hk, ?_⟩
  · have := h j hj
    grind
  · show 1 - y k < 1 - x k
    grind
/-- told commands are commands -/
def TW (M : mM) (s : Nat) : Prop := ∀ k : Nat, (k : Int) < mI M s 1 → 0 ≤ mI M (s + 32) k ∧ (0 < mny M s k → mI M (s + 32) k < mny M s k)
section LK
variable {M M1 : mM} {s n : Nat}
theorem look_lq (hG : GW M s) (hn : mI M s 1 = n) (h : gvQ M s 0 M1) (hl : lokQ M1 s) : LQ M1 s n := by
  obtain ⟨⟨ρ, t, h1⟩, h2⟩ := h
  have f1 := h1.2.1
  have hw : sameW M M1 s := sameW.of f1 (by omega) (fun x _ _ => by omega) (by omega)
  have i22 : mI M1 (s + 22) = mI M (s + 22) := hw.1.2.2.2 _ (by omega) (by omega)
  obtain ⟨w, l1, l2, l3⟩ := hl
  have hn1 : mI M1 s 1 = n := by rw [hw.1.1]; exact hn
  rw [hn1, Int.toNat_natCast] at l2 l3
  refine ⟨mI M1 (s + 36), w, fun k hk c => ?_, fun k hk h0 => ⟨fun c i hi hm hld => ?_, fun c hp => ?_⟩, fun k hk hk2 hk3 => ?_, fun k hk => ?_, l2, ?_⟩
  · have a := (h1.2.2 k (by omega)).2.1 (by rw [← i22]; exact c)
    omega
  · rw [hw.1.hm] at hi
    rw [hw.may] at hm
    rw [hw.1.hld] at hld
    rw [i22] at c
    exact h2 k (by omega) h0 (Or.inl ⟨c, i, hi, Or.inl ⟨Or.inr rfl, hm⟩, (leadQ_LD hG (by omega) hi).2 hld⟩)
  · rw [hw.1.hm] at hp ⊢
    rw [hw.may, hw.1.hld]
    rw [i22] at c
    refine Classical.byContradiction (fun q => ?_)
    refine h2 k (by omega) h0 (Or.inr ⟨c, hp, fun i hi hu => ?_⟩)
    have hm : mayP M s k i := by
      rcases hu with u | u
      · exact u.2
      · exact absurd (Or.inl (by omega)) u.1
    exact (leadQ_LD hG (by omega) hi).2 (Classical.byContradiction (fun q2 => q ⟨i, hi, hm, q2⟩))
  · obtain ⟨a1, a2, D, a3, a4, a5⟩ := (l1 k (by omega)).1 ⟨hk2, hk3⟩
    refine ⟨a1, fun i hi hm => ?_⟩
    have := a5 i hi hm
    have e : cx M1 s k i = (mI M1 (s + 23) k).toNat + i := rfl
    rw [e]
    omega
  · by_cases q : unk M1 s k
    · exact ((l1 k (by omega)).1 q).1
    · rw [(l1 k (by omega)).2 q]
      omega
  · exact l3
end LK
end
section
/-! The solver: max's choices are bettered until none is better. -/
theorem sameW.symm {M M' : mM} {s : Nat} (h : sameW M M' s) : sameW M' M s :=
  ⟨⟨h.1.1.symm, h.1.2.1.symm, h.1.2.2.1.symm, fun x a b => (h.1.2.2.2 x a b).symm⟩, h.2.1.symm, h.2.2.symm⟩
def WH (M : mM) (s : Nat) (M2 : mM) : Prop := mOk M2 ∧ Vk M2 s ∧ FI (aS s) M M2 ∧ (∀ j, j ≠ 24 → mI M2 s j = mI M s j) ∧ Wk M2 s ∧ Ct M2 s ∧ Rm M2 s 88 ∧ PLo M2 s
theorem WH.sw {M M2 : mM} {s : Nat} (h : WH M s M2) : sameW M M2 s := by
  obtain ⟨-, -, f, k, -⟩ := h
  have fe := f.2.2.2.2.2.2
  exact ⟨⟨k 1 (by omega), k 2 (by omega), k 3 (by omega), fun x a b => fe x (by omega)⟩, k 17 (by omega), fe _ (by omega)⟩
section WO
variable {G : mG} {d s n : Nat} {M : mM} {F l2 : Int} {Q : Int → mM → Prop}
theorem wk_answer {M5 : mM} (hF : Fall F) (hG : GW M s) (hC : GB M s) (hn : mI M s 1 = n) (hL : LQ M s n) (hl : i32 l2) (h : WH M s M5)
    (hQ : ∀ M6 x A ρ, WH M s M6 → Xt M6 s 88 n x → Res M s n A ρ (pl M5 s) x → Res M s n A ρ (pl M6 s) x → h_MS_work_72 G (d + 8) s l2 0 0 M6 Q) : h_MS_work_57 G (d + 8) s l2 1 M5 Q := by
  have hw := h.sw
  obtain ⟨o5, V5, f5, k5, W5, T5, R5, P5⟩ := h
  refine k_MS_work_57 o5 hl ⟨by omega, by omega⟩ ⟨fun w => by omega, fun _ => ⟨V5.k0, (s_MS_answer (d := d) (n := n) hF o5 V5 (hw.1.gw hG) (hw.1.gb hC) (by rw [hw.1.1]; exact hn) W5 T5 R5 P5 (hw.lq hL)).mono (fun M6 h6 => ?_)⟩⟩
  obtain ⟨o6, f6, k6, W6, T6, R6, P6, p6, A, ρ, x, X6, r6⟩ := h6
  have hr := r6.sw hw.symm
  have i22 : mI M5 (s + 22) = mI M (s + 22) := hw.1.2.2.2 _ (by omega) (by omega)
  exact ⟨o6, hQ M6 x A ρ ⟨o6, V5.fi f6, f5.trans f6, fun j hj => (k6 j hj).trans (k5 j hj), W6, T6, R6, P6⟩ X6 hr (hr.sig (fun k hk => by unfold pl; rw [p6 k (by rw [i22]; omega)]))⟩
theorem s_wk72 (hF : Fall F) (hG : GW M s) (hC : GB M s) (hn : mI M s 1 = n) (hL : LQ M s n) (hl : i32 l2)
    (hQ : ∀ M' x, WH M s M' → Xt M' s 88 n x → (∀ k, k < n → Smp 21 (x k) ∧ 0 ≤ x k) → (∀ k, k < n → mI M (s + 22) k = 3 → x k = 1) → h_MS_work_107 G (d + 8) s l2 0 M' Q) : ∀ (t : Nat) (x : Nat → Rat) (A : Nat → Prop) (ρ : Nat → Nat) (M2 : mM), WH M s M2 → Xt M2 s 88 n x → Res M s n A ρ (pl M2 s) x → sr (fun k => 1 - x k) n * (F : Rat) = ((t : Int) : Rat) → h_MS_work_72 G (d + 8) s l2 0 0 M2 Q := by
  have hn5 := hG.2.1
  intro t
  induction t using Nat.strongRecOn with
  | ind t ih =>
    intro x A ρ M2 h2 X2 r2 ht
    have h01 : ∀ t, t < n → 0 ≤ x t ∧ x t ≤ 1 := fun t ht => ⟨(r2.1 t ht).2, (smp_b (r2.1 t ht).1).1⟩
    suffices H : ∀ (c k : Nat) (M5 : mM), k + c = n → WH M s M5 → Xt M5 s 88 n x → mI M5 (s + 35) = mI M2 (s + 35) → h_MS_work_72 G (d + 8) s l2 0 k M5 Q from
      H n 0 M2 (by omega) h2 X2 rfl
    intro c
    induction c with
    | zero =>
      intro k M5 hk h5 X5 e5
      have ek : k = n := by omega
      subst ek
      have hw5 := h5.sw
      refine k_MS_work_72 h5.1 hl ⟨by omega, by omega⟩ ⟨by omega, by omega⟩ ?_
      rw [hw5.1.1, hn]
      refine ⟨h5.2.1.k0, fun _ => k_MS_work_57 h5.1 hl ⟨by omega, by omega⟩ ⟨fun _ => hQ M5 x h5 X5 r2.1 r2.2.1, fun w => absurd rfl w⟩, fun w => absurd (Or.inl (by omega)) w⟩
    | succ c ihc =>
      intro k M5 hk h5 X5 e5
      have hw5 := h5.sw
      obtain ⟨o5, V5, f5, k5, W5, T5, R5, P5⟩ := id h5
      refine k_MS_work_72 o5 hl ⟨by omega, by omega⟩ ⟨by omega, by omega⟩ ?_
      rw [hw5.1.1, hn]
      refine ⟨V5.k0, fun w => by rcases w with w | w; omega; exact absurd rfl w, fun _ => (s_MS_improve (d := d + 2) (Or.inl rfl) o5 V5 (hw5.1.gw hG) (hw5.1.gb hC) (by rw [hw5.1.1]; exact hn) (by rw [hw5.1.1]; omega) W5 X5 h01).mono (fun y M6 h6 => ?_)⟩
      obtain ⟨o6, W6, f6, hy⟩ := h6
      have w56 : sameW M5 M6 s := sameW.of f6 (by omega) (fun x _ _ => by omega) (by omega)
      have i22' : mI M5 (s + 22) = mI M (s + 22) := hw5.1.2.2.2 _ (by omega) (by omega)
      rw [i22', hw5.1.hm, hw5.may] at hy
      have s6 : ∀ j, j ≠ 24 → mI M6 s j = mI M s j := fun j hj => by rw [f6.2.2.2.2.2.2 s (by omega)]; exact k5 j hj
      rcases hy with ⟨y1, y2, y3⟩ | ⟨y1, y2, i, y3, y4, y5, y6⟩
      · subst y1
        exact ⟨⟨by omega, by omega⟩, o6, ihc (k + 1) M6 (by omega) ⟨o6, V5.fi f6, f5.trans (f6.mono (fun y q => by omega)), s6, W6, T5.out f6 (fun y q => by omega), R5.out f6 (fun y q => by omega), P5.out w56 y2⟩ (X5.out f6 (fun y q => by omega)) (y2.trans e5)⟩
      · subst y1
        have hlt : x k < cw M s (cx M s k i) x := by
          unfold betP at y5
          rw [if_pos rfl, hw5.1.hw, hw5.1.hx] at y5
          exact y5
        have epl : ∀ j, pl M6 s j = if j = k then i else pl M5 s j := fun j => by
          unfold pl
          rw [y6]
          by_cases z : j = k
          · rw [if_pos z, if_pos z]; omega
          · rw [if_neg z, if_neg z]
        have P6 : PLo M6 s := by
          intro j hj1 hj2
          rw [w56.1.1] at hj1
          rw [w56.1.hm] at hj2 ⊢
          rw [w56.may, epl, y6]
          by_cases z : j = k
          · rw [if_pos z, if_pos z, z, hw5.1.hm, hw5.may]
            exact ⟨by omega, y3, y4⟩
          · rw [if_neg z, if_neg z]
            exact P5 j hj1 hj2
        have h6 : WH M s M6 := ⟨o6, V5.fi f6, f5.trans (f6.mono (fun y q => by omega)), s6, W6, T5.out f6 (fun y q => by omega), R5.out f6 (fun y q => by omega), P6⟩
        have hw6 := h6.sw
        refine ⟨⟨by omega, by omega⟩, o6, k_MS_work_72 o6 hl ⟨by omega, by omega⟩ ⟨by omega, by omega⟩ ⟨h6.2.1.k0, fun _ => wk_answer hF hG hC hn hL hl h6 (fun M7 y' A' ρ' h7 X7 r7 r7' => ?_), fun w => absurd (Or.inr (fun z => by omega)) w⟩⟩
        obtain ⟨t', ht'⟩ := ms_ex (x := fun k => 1 - y' k) hF n (fun j hj => smp_co (r7.1 j hj).1 (r7.1 j hj).2)
        have e52 : pl M5 s = pl M2 s := by funext j; unfold pl; rw [e5]
        have hup := res_up hG hC hn r2 r7 (k := k) (by omega) y2 (by rw [epl, if_pos rfl]; exact y3) (by rw [epl, if_pos rfl]; exact hlt) (fun j hj hjk => by rw [epl, if_neg hjk, e52])
        exact ih t' (ms_lt hF ht ht' (sr_co_lt hup.1 (k := k) (by omega) hup.2)) y' A' ρ' M7 h7 X7 r7' ht'
end WO
end
section
/-! The solver: work. -/
abbrev kS (s w : Nat) : Nat → Prop := fun x => aS s x ∨ x = s + 30 ∨ eS s (68 + 5 * w) x
def wkQ (M : mM) (s n w : Nat) (r : Int) (M' : mM) : Prop := mOk M' ∧ FI (kS s w) M M' ∧ (∀ j, j ≠ 17 → j ≠ 24 → mI M' s j = mI M s j) ∧ Wk M' s ∧ Ct M' s ∧ Rm M' s 88 ∧ Rm M' s (68 + 5 * w) ∧ (∀ j, j ≠ w → mI M' (s + 30) j = mI M (s + 30) j) ∧ ((r = 0 ∧ mI M' (s + 30) w = 1 ∧ ∃ x : Nat → Rat, Xt M' s (68 + 5 * w) n x ∧ (∀ k, k < n → Smp 21 (x k) ∧ 0 ≤ x k) ∧ (∀ k, k < n → mI M (s + 22) k = 3 → x k = 1)) ∨ ((r = 5 ∨ r = 6) ∧ mI M' (s + 30) w = 0))
theorem Xt.out2 {S : Nat → Prop} {M M' : mM} {s e n : Nat} {x : Nat → Rat} (h : Xt M s e n x) (k : FI S M M') (hs : ∀ i y, i < n → S y → y < s + e + 25 * i ∨ s + e + 25 * i + 4 < y) : Xt M' s e n x := by
  intro i hi
  obtain ⟨h1, h2, h3⟩ := h i hi
  exact ⟨(h1.out k (fun y q => hs i y hi q)).1, h2.out h1 k (fun y q => hs i y hi q), by rw [fv_out h1 k (fun y q => hs i y hi q), h3]⟩
theorem Rm.out2 {S : Nat → Prop} {M M' : mM} {s e : Nat} (h : Rm M s e) (k : FI S M M') (hs : ∀ i y, i < 512 → S y → y < s + e + 25 * i ∨ s + e + 25 * i + 4 < y) : Rm M' s e :=
  fun i hi => (h i hi).out k (fun y q => hs i y hi q)
theorem wk_f1 {s w i y : Nat} (hw : w = 0 ∨ w = 2) (hi : i < 512) (q : aS s y) : y < s + (68 + 5 * w) + 25 * i ∨ s + (68 + 5 * w) + 25 * i + 4 < y := by
  rcases hw with z | z <;> subst z <;> omega
theorem wk_f2 {s w y : Nat} (hw : w = 0 ∨ w = 2) (q : y = s + 30 ∨ eS s (68 + 5 * w) y) : y < s + 12868 := by
  rcases hw with z | z <;> subst z <;> omega
theorem wk_f3 {s w i y : Nat} (hw : w = 0 ∨ w = 2) (hi : i < 512) (q : y = s + 30 ∨ eS s (68 + 5 * w) y) : y < s + 88 + 25 * i ∨ s + 88 + 25 * i + 4 < y := by
  rcases hw with z | z <;> subst z <;> omega
theorem wk_f4 {s w y : Nat} (q : y = s + 30 ∨ eS s (68 + 5 * w) y) : y = s + 30 ∨ s + 68 ≤ y := by
  rcases q with q | q
  · exact Or.inl q
  · exact Or.inr (by have := q.1; omega)
section WO
variable {G : mG} {d s n w : Nat} {M : mM} {F : Int}
theorem s_wk107 {M9 : mM} {x : Nat → Rat} {Q : Int → mM → Prop} (hw : w = 0 ∨ w = 2) (hn5 : n ≤ 512) (hn : mI M9 s 1 = n) (o9 : mOk M9) (V9 : Vk M9 s) (X9 : Xt M9 s 88 n x) (R9 : Rm M9 s (68 + 5 * w))
    (hQ : ∀ M', mOk M' → FI (fun y => y = s + 30 ∨ eS s (68 + 5 * w) y) M9 M' → Xt M' s (68 + 5 * w) n x → Rm M' s (68 + 5 * w) → (∀ j, mI M' (s + 30) j = if j = w then 1 else mI M9 (s + 30) j) → Q 0 M') : h_MS_work_107 G (d + 8) s w 0 M9 Q := by
  suffices H : ∀ (c k : Nat) (M1 : mM), k + c = n → mOk M1 → FI (eS s (68 + 5 * w)) M9 M1 → Xt M1 s (68 + 5 * w) k x → Rm M1 s (68 + 5 * w) → h_MS_work_107 G (d + 8) s w k M1 Q from
    H n 0 M9 (by omega) o9 FI.refl (fun k hk => by omega) R9
  intro c
  induction c with
  | zero =>
    intro k M1 hk o1 f1 X1 R1
    have ek : k = n := by omega
    subst ek
    have V1 := V9.fi f1
    have fe := f1.2.2.2.2.2.2
    refine k_MS_work_107 o1 ⟨by omega, by omega⟩ ⟨by omega, by omega⟩ ?_
    rw [fe s (fun q => by have := q.1; omega), hn, V1.r12, V1.n30, Int.toNat_natCast]
    refine ⟨V1.k0, fun _ => ⟨V1.k30, by omega, fun M2 e2 => ?_⟩, fun q => by omega⟩
    have f2 : FI (fun y => y = s + 30) M1 M2 := by rw [e2]; exact FI.ui rfl
    have o2 : mOk M2 := by rw [e2]; exact mOk_UI o1 ⟨by omega, by omega⟩
    refine hQ M2 o2 ((f1.mono (fun y q => Or.inr q)).trans (f2.mono (fun y q => Or.inl q))) (X1.out f2 (fun y q => by omega)) (R1.out f2 (fun y q => by omega)) (fun j => ?_)
    rw [e2, mI_UI, fe (s + 30) (fun q => by have := q.1; omega)]
    by_cases z : j = w
    · rw [if_pos ⟨rfl, z⟩, if_pos z]
    · rw [if_neg (fun q => z q.2), if_neg z]
  | succ c ih =>
    intro k M1 hk o1 f1 X1 R1
    have V1 := V9.fi f1
    have fe := f1.2.2.2.2.2.2
    have xk : Fq M1 (s + 88 + 25 * k) 56 ∧ Fc M1 (s + 88 + 25 * k) ∧ fv M1 (s + 88 + 25 * k) = x k := (X9.out2 f1 (fun i y hi q => by rcases hw with z | z <;> subst z <;> omega)) k (by omega)
    have rk := R1 k (by omega)
    have ea : mR M1 (s + 29) (3 * (k : Int) + (w : Int)).toNat = s + (68 + 5 * w) + 25 * k := by
      rw [show (3 * (k : Int) + (w : Int)).toNat = 3 * k + w by omega, V1.f29 k w (by omega) (by omega)]
      omega
    refine k_MS_work_107 o1 ⟨by omega, by omega⟩ ⟨by omega, by omega⟩ ?_
    rw [fe s (fun q => by have := q.1; omega), hn, V1.r11, V1.r21, V1.n29, V1.n38, Int.toNat_natCast, ea, Int.toNat_natCast, V1.f38 k (by omega)]
    refine ⟨V1.k0, fun q => by omega, fun _ => ⟨V1.k29, by omega, V1.k38, by omega, rk.1.1, (s_MF_copy o1 rk xk.1 (by rcases hw with z | z <;> subst z <;> omega) xk.1.2.1.1.2.2.2.2.2.2 xk.1.2.2.1.1.2.2.2.2.2.2).mono (fun M2 h2 => ?_)⟩⟩
    obtain ⟨o2, f2, F2, w4, w5, w6⟩ := h2
    have C2 := fc_copy xk.2.1 w4 w5 w6
    have f2' : FI (eS s (68 + 5 * w)) M1 M2 := f2.mono (fun y q => by have q' : s + (68 + 5 * w) + 25 * k ≤ y ∧ y ≤ s + (68 + 5 * w) + 25 * k + 4 := q; omega)
    exact ⟨o2, ih (k + 1) M2 (by omega) o2 (f1.trans f2') (X1.put (x' := x) f2 F2 C2.1 (C2.2.trans xk.2.2) (fun j hj => by
      by_cases z : j = k
      · exact Or.inl z
      · exact Or.inr ⟨by omega, rfl⟩)) (R1.put (by omega) f2 F2.ft)⟩
theorem s_MS_work {q : Int} (hF : Fall F) (hq : 0 ≤ q ∧ q ≤ 2) (hw : w = 0 ∨ w = 2) (hO : mOk M) (hV : Vk M s) (hG : GW M s) (hC : GB M s) (hn : mI M s 1 = n) (hT : TW M s) (hW : Wk M s) (hCt : Ct M s) (hR : Rm M s 88) (hRw : Rm M s (68 + 5 * w)) :
    Ci G y_MS_work (d + 9) [vr s, vi q, vi w] M (wkQ M s n w) := by
  have hn5 := hG.2.1
  refine k_MS_work hO ⟨by omega, by omega⟩ ⟨by omega, by omega⟩ ⟨hV.k0, fun M2 e2 => ?_⟩
  have f2 : FI (fun y => y = s) M M2 := by rw [e2]; exact FI.ui rfl
  have o2 : mOk M2 := by rw [e2]; exact mOk_UI hO ⟨by omega, by omega⟩
  have V2 := hV.fi f2
  have s2 : ∀ j, j ≠ 17 → mI M2 s j = mI M s j := fun j hj => by rw [e2, mI_UI, if_neg (fun w => hj w.2)]
  rw [V2.r12, V2.n30, Int.toNat_natCast]
  refine ⟨V2.k30, by omega, fun M3 e3 => ?_⟩
  have f3 : FI (fun y => y = s + 30) M2 M3 := by rw [e3]; exact FI.ui rfl
  have o3 : mOk M3 := by rw [e3]; exact mOk_UI o2 ⟨by omega, by omega⟩
  have V3 := V2.fi f3
  have h30 : ∀ j, mI M3 (s + 30) j = if j = w then 0 else mI M (s + 30) j := fun j => by
    rw [e3, mI_UI, f2.2.2.2.2.2.2 (s + 30) (by omega)]
    by_cases z : j = w
    · rw [if_pos ⟨rfl, z⟩, if_pos z]
    · rw [if_neg (fun q => z q.2), if_neg z]
  have s3 : ∀ j, j ≠ 17 → mI M3 s j = mI M s j := fun j hj => by rw [f3.2.2.2.2.2.2 s (by omega)]; exact s2 j hj
  have g3 : ∀ y, y ≠ s → y ≠ s + 30 → mI M3 y = mI M y := fun y a b => by rw [f3.2.2.2.2.2.2 y b, f2.2.2.2.2.2.2 y a]
  have G3 : sameG M M3 s := ⟨s3 1 (by omega), s3 2 (by omega), s3 3 (by omega), fun y a b => g3 y (by omega) (by omega)⟩
  refine (s_MS_look (d := d + 5) o3 V3 (G3.gw hG)).mono (fun y M8 h8 => ?_)
  obtain ⟨h8, hy, hy0⟩ := h8
  have hgv := h8
  obtain ⟨⟨ρ, t, o8, f8, -⟩, -⟩ := h8
  have V8 := V3.fi f8
  have hw8 : sameW M3 M8 s := sameW.of f8 (by omega) (fun x _ _ => by omega) (by omega)
  have g8 : ∀ y, y ≠ s → y ≠ s + 30 → y ≠ s + 36 → mI M8 y = mI M y := fun y a b c => by rw [f8.2.2.2.2.2.2 y c, g3 y a b]
  have s8 : ∀ j, j ≠ 17 → mI M8 s j = mI M s j := fun j hj => by rw [f8.2.2.2.2.2.2 s (by omega)]; exact s3 j hj
  have h308 : ∀ j, mI M8 (s + 30) j = if j = w then 0 else mI M (s + 30) j := fun j => by rw [f8.2.2.2.2.2.2 (s + 30) (by omega)]; exact h30 j
  have W8 : Wk M8 s := ((hW.far f2 (fun y q => by omega)).far f3 (fun y q => by omega)).far f8 (fun y q => by omega)
  have C8 : Ct M8 s := ((hCt.out f2 (fun y q => by omega)).out f3 (fun y q => by omega)).out f8 (fun y q => by omega)
  have R8 : ∀ e, 68 ≤ e → Rm M s e → Rm M8 s e := fun e he h => ((h.out f2 (fun y q => by omega)).out f3 (fun y q => by omega)).out f8 (fun y q => by omega)
  have f08 : FI (kS s w) M M8 := ((f2.mono (fun y q => by omega)).trans (f3.mono (fun y q => by omega))).trans (f8.mono (fun y q => by omega))
  refine ⟨⟨by omega, by omega⟩, o8, fun y0 => ?_, fun y0 => ⟨o8, f08, fun j a b => s8 j a, W8, C8, R8 88 (by omega) hR, R8 _ (by omega) hRw, fun j hj => by rw [h308, if_neg hj], Or.inr ⟨by omega, by rw [h308, if_pos rfl]⟩⟩⟩
  have hL8 := look_lq (G3.gw hG) (by rw [G3.1]; exact hn) hgv (hy0 y0)
  have G8 : sameG M M8 s := G3.trans hw8.1
  suffices H : ∀ (c k : Nat) (M9 : mM), k + c = n → mOk M9 → FI (fun y => y = s + 35) M8 M9 → (∀ j, j < k → mI M9 (s + 35) j = if mI M8 s 17 = mI M8 (s + 22) j then mI M8 (s + 32) j else 0) → h_MS_work_26 G (d + 8) s w k M9 (wkQ M s n w) from
    H n 0 M8 (by omega) o8 FI.refl (fun j hj => by omega)
  intro c
  induction c with
  | zero =>
    intro k M9 hk o9 f9 p9
    have ek : k = n := by omega
    subst ek
    have V9 := V8.fi f9
    have fe9 := f9.2.2.2.2.2.2
    have hw9 : sameW M8 M9 s := sameW.of f9 (by omega) (fun x _ _ => by omega) (by omega)
    have G9 : sameG M M9 s := G8.trans hw9.1
    have n9 : mI M9 s 1 = k := by rw [G9.1]; exact hn
    have i22 : mI M9 (s + 22) = mI M (s + 22) := G9.2.2.2 _ (by omega) (by omega)
    have P9 : PLo M9 s := by
      intro j hj hp
      rw [G9.hm] at hp ⊢
      have a := hT j (by omega)
      have b := p9 j (by omega)
      have e32 : mI M8 (s + 32) = mI M (s + 32) := g8 _ (by omega) (by omega) (by omega)
      have e22 : mI M8 (s + 22) = mI M (s + 22) := g8 _ (by omega) (by omega) (by omega)
      rw [e32, e22] at b
      rw [hw9.may]
      unfold mayP pl
      rw [e32, e22]
      by_cases z : mI M8 s 17 = mI M (s + 22) j
      · rw [if_pos z] at b
        exact ⟨by omega, by have := a.2 hp; omega, Or.inr (by omega)⟩
      · rw [if_neg z] at b
        exact ⟨by omega, by omega, Or.inl z⟩
    have GW9 := G9.gw hG
    have GB9 := G9.gb hC
    have L9 := hw9.lq hL8
    have W9 : WH M9 s M9 := ⟨o9, V9, FI.refl, fun j _ => rfl, W8.far f9 (fun y q => by omega), C8.out f9 (fun y q => by omega), (R8 88 (by omega) hR).out f9 (fun y q => by omega), P9⟩
    have f09 : FI (kS s w) M M9 := f08.trans (f9.mono (fun y q => by omega))
    refine k_MS_work_26 o9 ⟨by omega, by omega⟩ ⟨by omega, by omega⟩ ?_
    rw [n9]
    refine ⟨V9.k0, fun _ => ?_, fun z => by omega⟩
    have hl : i32 (w : Int) := ⟨by omega, by omega⟩
    refine wk_answer hF GW9 GB9 n9 L9 hl W9 (fun M6 x A ρ h6 X6 _ r6 => ?_)
    obtain ⟨t', ht'⟩ := ms_ex (x := fun k => 1 - x k) hF k (fun j hj => smp_co (r6.1 j hj).1 (r6.1 j hj).2)
    refine s_wk72 hF GW9 GB9 n9 L9 hl (fun M7 x7 h7 X7 v7 v7' => ?_) t' x A ρ M6 h6 X6 r6 ht'
    have hs7 := h7.sw
    obtain ⟨o7, V7, f7, k7, W7, C7, R7, -⟩ := h7
    have R79 : Rm M9 s (68 + 5 * w) := (R8 _ (by omega) hRw).out f9 (fun y q => by omega)
    refine s_wk107 hw (by omega) (by rw [hs7.1.1]; exact n9) o7 V7 X7 (R79.out2 f7 (fun i y hi q => wk_f1 hw hi q)) (fun M' o' f' X' R' h' => ?_)
    have fk : ∀ y, (y = s + 30 ∨ eS s (68 + 5 * w) y) → kS s w y := fun y q => Or.inr q
    have hlow : ∀ y, y < s + 68 → y ≠ s + 30 → mI M' y = mI M7 y := fun y a b => f'.2.2.2.2.2.2 y (fun q => by rcases q with q | q; exact b q; have := q.1; omega)
    refine ⟨o', f09.trans ((f7.mono (fun y q => Or.inl q)).trans (f'.mono fk)), fun j a b => ?_, W7.far f' (fun y q => by have := wk_f4 q; omega), C7.out f' (fun y q => wk_f2 hw q), R7.out2 f' (fun i y hi q => wk_f3 hw hi q), R', fun j hj => ?_, Or.inl ⟨rfl, ?_, x7, X', v7, fun j hj c => v7' j hj (by rw [i22]; exact c)⟩⟩
    · rw [hlow s (by omega) (by omega), k7 j b, fe9 s (by omega), s8 j a]
    · rw [h' j, if_neg hj, f7.2.2.2.2.2.2 (s + 30) (by omega), fe9 (s + 30) (by omega), h308, if_neg hj]
    · rw [h' w, if_pos rfl]
  | succ c ih =>
    intro k M9 hk o9 f9 p9
    have V9 := V8.fi f9
    have fe9 := f9.2.2.2.2.2.2
    have hw9 : sameW M8 M9 s := sameW.of f9 (by omega) (fun x _ _ => by omega) (by omega)
    have G9 : sameG M M9 s := G8.trans hw9.1
    have n9 : mI M9 s 1 = n := by rw [G9.1]; exact hn
    refine k_MS_work_26 o9 ⟨by omega, by omega⟩ ⟨by omega, by omega⟩ ?_
    rw [n9]
    refine ⟨V9.k0, fun z => by omega, fun _ => ?_⟩
    refine k_MS_firstThatMay o9 ⟨by omega, by omega⟩ ?_
    rw [V9.r4, V9.r14, V9.n22, V9.n32, V9.r18, fe9 s (by omega), fe9 (s + 22) (by omega), fe9 (s + 32) (by omega), Int.toNat_natCast]
    have e32 : mI M8 (s + 32) = mI M (s + 32) := g8 _ (by omega) (by omega) (by omega)
    have a := hT k (by omega)
    have i32v : i32 (mI M8 (s + 32) k) := by rw [e32]; exact (hO _ _).1
    refine ⟨V9.k0, V9.k22, by omega, fun _ => ⟨V9.k32, by omega⟩, fun v hv => ?_⟩
    have hv32 : i32 v := by
      split at hv
      · rw [hv]; exact i32v
      · rw [hv]; exact ⟨by omega, by omega⟩
    refine ⟨hv32, o9, V9.k35, by rw [V9.n35]; omega, fun M1 e1 => ?_⟩
    have f1 : FI (fun y => y = s + 35) M9 M1 := by rw [e1]; exact FI.ui rfl
    have o1 : mOk M1 := by rw [e1]; exact mOk_UI o9 hv32
    refine ih (k + 1) M1 (by omega) o1 (f9.trans f1) (fun j hj => ?_)
    rw [e1, mI_UI]
    by_cases z : j = k
    · rw [if_pos ⟨rfl, z⟩, z]
      exact hv
    · rw [if_neg (fun q => z q.2)]
      exact p9 j (by omega)
end WO
end
