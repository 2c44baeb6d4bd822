/-! The solver: a better choice of max raises the values. -/
section RU
variable {M M' : mM} {s n : Nat} {A A' : Nat → Prop} {ρ ρ' σ σ' : Nat → Nat} {x y : Nat → Rat}
theorem Res.sw (h : Res M s n A ρ σ x) (w : sameW M M' s) : Res M' s n A ρ σ x := by
  unfold Res Rnk Fix at h ⊢
  rw [w.1.hm, w.may, w.1.hld, w.1.hx, w.1.hw, w.1.2.2.2 (s + 22) (by omega) (by omega)]
  exact h
theorem Res.sig (h : Res M s n A ρ σ x) (w : ∀ k, mI M (s + 22) k = 1 → σ' k = σ k) : Res M s n A ρ σ' x := by
  obtain ⟨h1, h2, h3, h4, h5, h6, h7, h8⟩ := h
  refine ⟨h1, h2, h3, fun k hk hA h => by rw [w k h]; exact h4 k hk hA h, h5, fun k hk hA h => ?_, ⟨h7.1, fun k hk hA => ⟨fun c => by rw [w k c]; exact (h7.2 k hk hA).1 c, (h7.2 k hk hA).2⟩⟩, fun z z1 z2 z3 z4 => h8 z (fun k hk hA c => by rw [← w k c]; exact z1 k hk hA c) z2 z3 z4⟩
  rcases h6 k hk hA h with c | c
  · left
    rw [w k c.1]
    exact c
  · exact Or.inr c
theorem res_up (hG : GW M s) (hC : GB M s) (hn : mI M s 1 = n) (h : Res M s n A ρ σ x) (h' : Res M s n A' ρ' σ' y) {k : Nat} (hk : k < n) (h1 : mI M (s + 22) k = 1) (hi : (σ' k : Int) < mny M s k) (hb : x k < cw M s (cx M s k (σ' k)) x) (hs : ∀ j, mI M (s + 22) j = 1 → j ≠ k → σ' j = σ j) : (∀ j, j < n → x j ≤ y j) ∧ x k < y k := by
  obtain ⟨a1, a2, a3, a4, a5, a6, a7, a8⟩ := h
  obtain ⟨b1, b2, b3, b4, b5, b6, b7, b8⟩ := h'
  have u0 := up0 hG hC hn (x := x) a6 b7.1 b7.2 a3 a4 a5 (fun j hj c => by
    by_cases z : j = k
    · subst z; exact Or.inr ⟨hi, hb⟩
    · exact Or.inl (hs j c z))
  have hnn : ∀ (j i : Nat), j < n → (i : Int) < mny M s j → 0 ≤ cw M s (cx M s j i) x := fun j i hj hi => by
    have hcx := cx_lt hG (k := j) (i := i) (by omega) hi
    have a := cw_le hC hcx (f := fun _ => 0) (g := x) (fun b hb => (a1 _ (by have := tg_lt hG hcx hb; omega)).2)
    rw [cw_const hC hcx] at a
    exact a
  have hle : ∀ j, j < n → x j ≤ y j := by
    refine b8 x (fun j hj hA c => ?_) (fun j hj hA c i hi hm => ?_) u0 (fun j hj c => by rw [a2 j hj c]; exact Rat.le_refl)
    · by_cases z : j = k
      · subst z
        exact Rat.le_of_lt hb
      · rw [hs j c z]
        by_cases w : A j
        · rw [← a4 j hj w c]
          exact Rat.le_refl
        · rw [a3 j hj w (by omega)]
          have hin : (σ j : Int) < mny M s j := by
            rcases b6 j hj hA (by omega) with q | q
            · rw [← hs j c z]; exact q.2.1
            · omega
          exact hnn j (σ j) hj hin
    · by_cases w : A j
      · exact a5 j hj w c i hi hm
      · rw [a3 j hj w (by omega)]
        exact hnn j i hj hi
  refine ⟨hle, ?_⟩
  have hkI : (k : Int) < mI M s 1 := by omega
  have hA' : A' k := by
    refine Classical.byContradiction (fun w => ?_)
    have l := (b7.2 k hk w).1 h1 hi
    have c := cw_below (x := x) hG hC hkI hi (c := 0) (T := fun t => ¬ A' t) (fun t ht ha => u0 t (by omega) ha) (fun ⟨b, w1, w2⟩ => l ⟨b, w1, Classical.byContradiction (fun w3 => w2 w3)⟩)
    have d := (a1 k hk).2
    have e := c.1
    grind
  have hcx := cx_lt hG hkI hi
  have e := cw_le hC hcx (f := x) (g := y) (fun b hb => hle _ (by have := tg_lt hG hcx hb; omega))
  rw [b4 k hk hA' h1]
  grind
end RU
/-- how far the values are from one -/
theorem smp_co {x : Rat} (h : Smp 21 x) (h0 : 0 ≤ x) : Smp 21 (1 - x) ∧ 0 ≤ 1 - x := by
  obtain ⟨E, z, e0, e1, e2, e3, e4⟩ := h
  refine ⟨⟨E, E - z, e0, e1, ?_, by grind, by grind⟩, by grind⟩
  rw [Rat.intCast_sub, ← e2]
  grind
theorem sr_co_lt {n : Nat} {x y : Nat → Rat} (h : ∀ j, j < n → x j ≤ y j) {k : Nat} (hk : k < n) (hl : x k < y k) : sr (fun j => 1 - y j) n < sr (fun j => 1 - x j) n := by
  refine sr_lt n (fun j hj => ?_) ⟨k, hk, ?_⟩
  · have := h j hj
    grind
  · show 1 - y k < 1 - x k
    grind
/-- told commands are commands -/
def TW (M : mM) (s : Nat) : Prop := ∀ k : Nat, (k : Int) < mI M s 1 → 0 ≤ mI M (s + 32) k ∧ (0 < mny M s k → mI M (s + 32) k < mny M s k)
section LK
variable {M M1 : mM} {s n : Nat}
theorem look_lq (hG : GW M s) (hn : mI M s 1 = n) (h : gvQ M s 0 M1) (hl : lokQ M1 s) : LQ M1 s n := by
  obtain ⟨⟨ρ, t, h1⟩, h2⟩ := h
  have f1 := h1.2.1
  have hw : sameW M M1 s := sameW.of f1 (by omega) (fun x _ _ => by omega) (by omega)
  have i22 : mI M1 (s + 22) = mI M (s + 22) := hw.1.2.2.2 _ (by omega) (by omega)
  obtain ⟨w, l1, l2, l3⟩ := hl
  have hn1 : mI M1 s 1 = n := by rw [hw.1.1]; exact hn
  rw [hn1, Int.toNat_natCast] at l2 l3
  refine ⟨mI M1 (s + 36), w, fun k hk c => ?_, fun k hk h0 => ⟨fun c i hi hm hld => ?_, fun c hp => ?_⟩, fun k hk hk2 hk3 => ?_, fun k hk => ?_, l2, ?_⟩
  · have a := (h1.2.2 k (by omega)).2.1 (by rw [← i22]; exact c)
    omega
  · rw [hw.1.hm] at hi
    rw [hw.may] at hm
    rw [hw.1.hld] at hld
    rw [i22] at c
    exact h2 k (by omega) h0 (Or.inl ⟨c, i, hi, Or.inl ⟨Or.inr rfl, hm⟩, (leadQ_LD hG (by omega) hi).2 hld⟩)
  · rw [hw.1.hm] at hp ⊢
    rw [hw.may, hw.1.hld]
    rw [i22] at c
    refine Classical.byContradiction (fun q => ?_)
    refine h2 k (by omega) h0 (Or.inr ⟨c, hp, fun i hi hu => ?_⟩)
    have hm : mayP M s k i := by
      rcases hu with u | u
      · exact u.2
      · exact absurd (Or.inl (by omega)) u.1
    exact (leadQ_LD hG (by omega) hi).2 (Classical.byContradiction (fun q2 => q ⟨i, hi, hm, q2⟩))
  · obtain ⟨a1, a2, D, a3, a4, a5⟩ := (l1 k (by omega)).1 ⟨hk2, hk3⟩
    refine ⟨a1, fun i hi hm => ?_⟩
    have := a5 i hi hm
    have e : cx M1 s k i = (mI M1 (s + 23) k).toNat + i := rfl
    rw [e]
    omega
  · by_cases q : unk M1 s k
    · exact ((l1 k (by omega)).1 q).1
    · rw [(l1 k (by omega)).2 q]
      omega
  · exact l3
end LK
