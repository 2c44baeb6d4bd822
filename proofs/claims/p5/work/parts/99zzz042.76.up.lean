section
/-! The solver: a better choice of max raises the values. -/
section RU
variable {M M' : mM} {s n : Nat} {A A' : Nat → Prop} {ρ ρ' σ σ' : Nat → Nat} {x y : Nat → Rat}
theorem Res.sw (h : Res M s n A ρ σ x) (w : sameW M M' s) : Res M' s n A ρ σ x := by
  unfold Res Rnk Fix at h ⊢
  rw [w.1.hm, w.may, w.1.hld, w.1.hx, w.1.hw, w.1.2.2.2 (s + 22) (by omega) (by omega)]
  exact h
theorem Res.sig (h : Res M s n A ρ σ x) (w : ∀ k, mI M (s + 22) k = 1 → σ' k = σ k) : Res M s n A ρ σ' x := by
  obtain ⟨h1, h2, h3, h4, h5, h6, h7, h8⟩ := h
  refine ⟨h1, h2, h3, fun k hk hA h => by rw [w k h]; exact h4 k hk hA h, h5, fun k hk hA h => ?_, ⟨h7.1, fun k hk hA => ⟨fun c => by rw [w k c]; exact (h7.2 k hk hA).1 c, (h7.2 k hk hA).2⟩⟩, fun z z1 z2 z3 z4 => h8 z (fun k hk hA c => by rw [← w k c]; exact z1 k hk hA c) z2 z3 z4⟩
  rcases h6 k hk hA h with c | c
  · left
    rw [w k c.1]
    exact c
  · exact Or.inr c
theorem res_up (hG : GW M s) (hC : GB M s) (hn : mI M s 1 = n) (h : Res M s n A ρ σ x) (h' : Res M s n A' ρ' σ' y) {k : Nat} (hk : k < n) (h1 : mI M (s + 22) k = 1) (hi : (σ' k : Int) < mny M s k) (hb : x k < cw M s (cx M s k (σ' k)) x) (hs : ∀ j, mI M (s + 22) j = 1 → j ≠ k → σ' j = σ j) : (∀ j, j < n → x j ≤ y j) ∧ x k < y k := by
  obtain ⟨a1, a2, a3, a4, a5, a6, a7, a8⟩ := h
  obtain ⟨b1, b2, b3, b4, b5, b6, b7, b8⟩ := h'
  have u0 := up0 hG hC hn (x := x) a6 b7.1 b7.2 a3 a4 a5 (fun j hj c => by
    by_cases z : j = k
    · subst z; exact Or.inr ⟨hi, hb⟩
    · exact Or.inl (hs j c z))
  have hnn : ∀ (j i : Nat), j < n → (i : Int) < mny M s j → 0 ≤ cw M s (cx M s j i) x := fun j i hj hi => by
    have hcx := cx_lt hG (k := j) (i := i) (by omega) hi
    have a := cw_le hC hcx (f := fun _ => 0) (g := x) (fun b hb => (a1 _ (by have := tg_lt hG hcx hb; omega)).2)
    rw [cw_const hC hcx] at a
    exact a
  have hle : ∀ j, j < n → x j ≤ y j := by
    refine b8 x (fun j hj hA c => ?_) (fun j hj hA c i hi hm => ?_) u0 (fun j hj c => by rw [a2 j hj c]; exact Rat.le_refl)
    · by_cases z : j = k
      · subst z
        exact Rat.le_of_lt hb
      · rw [hs j c z]
        by_cases w : A j
        · rw [← a4 j hj w c]
          exact Rat.le_refl
        · rw [a3 j hj w (by omega)]
          have hin : (σ j : Int) < mny M s j := by
            rcases b6 j hj hA (by omega) with q | q
            · rw [← hs j c z]; exact q.2.1
            · omega
          exact hnn j (σ j) hj hin
    · by_cases w : A j
      · exact a5 j hj w c i hi hm
      · rw [a3 j hj w (by omega)]
        exact hnn j i hj hi
  refine ⟨hle, ?_⟩
  have hkI : (k : Int) < mI M s 1 := by omega
  have hA' : A' k := by
    refine Classical.byContradiction (fun w => ?_)
    have l := (b7.2 k hk w).1 h1 hi
    have c := cw_below (x := x) hG hC hkI hi (c := 0) (T := fun t => ¬ A' t) (fun t ht ha => u0 t (by omega) ha) (fun ⟨b, w1, w2⟩ => l ⟨b, w1, Classical.byContradiction (fun w3 => w2 w3)⟩)
    have d := (a1 k hk).2
    have e := c.1
    grind
  have hcx := cx_lt hG hkI hi
  have e := cw_le hC hcx (f := x) (g := y) (fun b hb => hle _ (by have := tg_lt hG hcx hb; omega))
  rw [b4 k hk hA' h1]
  grind
end RU
/-- how far the values are from one -/
theorem smp_co {x : Rat} (h : Smp 21 x) (h0 : 0 ≤ x) : Smp 21 (1 - x) ∧ 0 ≤ 1 - x := by
  obtain ⟨E, z, e0, e1, e2, e3, e4⟩ := h
  refine ⟨⟨E, E - z, e0, e1, ?_, by grind, by grind⟩, by grind⟩
  rw [Rat.intCast_sub, ← e2]
  grind
theorem sr_co_lt {n : Nat} {x y : Nat → Rat} (h : ∀ j, j < n → x j ≤ y j) {k : Nat} (hk : k < n) (hl : x k < y k) : sr (fun j => 1 - y j) n < sr (fun j => 1 - x j) n := by
  refine sr_lt n (fun j hj => ?_) ⟨k, hk, ?_⟩
  · have := h j hj
    grind
  · show 1 - y k < 1 - x k
    grind
/-- told commands are commands -/
def TW (M : mM) (s : Nat) : Prop := ∀ k : Nat, (k : Int) < mI M s 1 → 0 ≤ mI M (s + 32) k ∧ (0 < mny M s k → mI M (s + 32) k < mny M s k)
section LK
variable {M M1 : mM} {s n : Nat}
theorem look_lq (hG : GW M s) (hn : mI M s 1 = n) (h : gvQ M s 0 M1) (hl : lokQ M1 s) : LQ M1 s n := by
  obtain ⟨⟨ρ, t, h1⟩, h2⟩ := h
  have f1 := h1.2.1
  have hw : sameW M M1 s := sameW.of f1 (by omega) (fun x _ _ => by omega) (by omega)
  have i22 : mI M1 (s + 22) = mI M (s + 22) := hw.1.2.2.2 _ (by omega) (by omega)
  obtain ⟨w, l1, l2, l3⟩ := hl
  have hn1 : mI M1 s 1 = n := by rw [hw.1.1]; exact hn
  rw [hn1, Int.toNat_natCast] at l2 l3
  refine ⟨mI M1 (s + 36), w, fun k hk c => ?_, fun k hk h0 => ⟨fun c i hi hm hld => ?_, fun c hp => ?_⟩, fun k hk hk2 hk3 => ?_, fun k hk => ?_, l2, ?_⟩
  · have a := (h1.2.2 k (by omega)).2.1 (by rw [← i22]; exact c)
    omega
  · rw [hw.1.hm] at hi
    rw [hw.may] at hm
    rw [hw.1.hld] at hld
    rw [i22] at c
    exact h2 k (by omega) h0 (Or.inl ⟨c, i, hi, Or.inl ⟨Or.inr rfl, hm⟩, (leadQ_LD hG (by omega) hi).2 hld⟩)
  · rw [hw.1.hm] at hp ⊢
    rw [hw.may, hw.1.hld]
    rw [i22] at c
    refine Classical.byContradiction (fun q => ?_)
    refine h2 k (by omega) h0 (Or.inr ⟨c, hp, fun i hi hu => ?_⟩)
    have hm : mayP M s k i := by
      rcases hu with u | u
      · exact u.2
      · exact absurd (Or.inl (by omega)) u.1
    exact (leadQ_LD hG (by omega) hi).2 (Classical.byContradiction (fun q2 => q ⟨i, hi, hm, q2⟩))
  · obtain ⟨a1, a2, D, a3, a4, a5⟩ := (l1 k (by omega)).1 ⟨hk2, hk3⟩
    refine ⟨a1, fun i hi hm => ?_⟩
    have := a5 i hi hm
    have e : cx M1 s k i = (mI M1 (s + 23) k).toNat + i := rfl
    rw [e]
    omega
  · by_cases q : unk M1 s k
    · exact ((l1 k (by omega)).1 q).1
    · rw [(l1 k (by omega)).2 q]
      omega
  · exact l3
end LK
end
section
/-! The solver: max's choices are bettered until none is better. -/
theorem sameW.symm {M M' : mM} {s : Nat} (h : sameW M M' s) : sameW M' M s :=
  ⟨⟨h.1.1.symm, h.1.2.1.symm, h.1.2.2.1.symm, fun x a b => (h.1.2.2.2 x a b).symm⟩, h.2.1.symm, h.2.2.symm⟩
def WH (M : mM) (s : Nat) (M2 : mM) : Prop := mOk M2 ∧ Vk M2 s ∧ FI (aS s) M M2 ∧ (∀ j, j ≠ 24 → mI M2 s j = mI M s j) ∧ Wk M2 s ∧ Ct M2 s ∧ Rm M2 s 88 ∧ PLo M2 s
theorem WH.sw {M M2 : mM} {s : Nat} (h : WH M s M2) : sameW M M2 s := by
  obtain ⟨-, -, f, k, -⟩ := h
  have fe := f.2.2.2.2.2.2
  exact ⟨⟨k 1 (by omega), k 2 (by omega), k 3 (by omega), fun x a b => fe x (by omega)⟩, k 17 (by omega), fe _ (by omega)⟩
section WO
variable {G : mG} {d s n : Nat} {M : mM} {F l2 : Int} {Q : Int → mM → Prop}
theorem wk_answer {M5 : mM} (hF : Fall F) (hG : GW M s) (hC : GB M s) (hn : mI M s 1 = n) (hL : LQ M s n) (hl : i32 l2) (h : WH M s M5)
    (hQ : ∀ M6 x A ρ, WH M s M6 → Xt M6 s 88 n x → Res M s n A ρ (pl M5 s) x → Res M s n A ρ (pl M6 s) x → h_MS_work_72 G (d + 8) s l2 0 0 M6 Q) : h_MS_work_57 G (d + 8) s l2 1 M5 Q := by
  have hw := h.sw
  obtain ⟨o5, V5, f5, k5, W5, T5, R5, P5⟩ := h
  refine k_MS_work_57 o5 hl ⟨by omega, by omega⟩ ⟨fun w => by omega, fun _ => ⟨V5.k0, (s_MS_answer (d := d) (n := n) hF o5 V5 (hw.1.gw hG) (hw.1.gb hC) (by rw [hw.1.1]; exact hn) W5 T5 R5 P5 (hw.lq hL)).mono (fun M6 h6 => ?_)⟩⟩
  obtain ⟨o6, f6, k6, W6, T6, R6, P6, p6, A, ρ, x, X6, r6⟩ := h6
  have hr := r6.sw hw.symm
  have i22 : mI M5 (s + 22) = mI M (s + 22) := hw.1.2.2.2 _ (by omega) (by omega)
  exact ⟨o6, hQ M6 x A ρ ⟨o6, V5.fi f6, f5.trans f6, fun j hj => (k6 j hj).trans (k5 j hj), W6, T6, R6, P6⟩ X6 hr (hr.sig (fun k hk => by unfold pl; rw [p6 k (by rw [i22]; omega)]))⟩
theorem s_wk72 (hF : Fall F) (hG : GW M s) (hC : GB M s) (hn : mI M s 1 = n) (hL : LQ M s n) (hl : i32 l2)
    (hQ : ∀ M' x, WH M s M' → Xt M' s 88 n x → (∀ k, k < n → Smp 21 (x k) ∧ 0 ≤ x k) → (∀ k, k < n → mI M (s + 22) k = 3 → x k = 1) → h_MS_work_107 G (d + 8) s l2 0 M' Q) : ∀ (t : Nat) (x : Nat → Rat) (A : Nat → Prop) (ρ : Nat → Nat) (M2 : mM), WH M s M2 → Xt M2 s 88 n x → Res M s n A ρ (pl M2 s) x → sr (fun k => 1 - x k) n * (F : Rat) = ((t : Int) : Rat) → h_MS_work_72 G (d + 8) s l2 0 0 M2 Q := by
  have hn5 := hG.2.1
  intro t
  induction t using Nat.strongRecOn with
  | ind t ih =>
    intro x A ρ M2 h2 X2 r2 ht
    have h01 : ∀ t, t < n → 0 ≤ x t ∧ x t ≤ 1 := fun t ht => ⟨(r2.1 t ht).2, (smp_b (r2.1 t ht).1).1⟩
    suffices H : ∀ (c k : Nat) (M5 : mM), k + c = n → WH M s M5 → Xt M5 s 88 n x → mI M5 (s + 35) = mI M2 (s + 35) → h_MS_work_72 G (d + 8) s l2 0 k M5 Q from
      H n 0 M2 (by omega) h2 X2 rfl
    intro c
    induction c with
    | zero =>
      intro k M5 hk h5 X5 e5
      have ek : k = n := by omega
      subst ek
      have hw5 := h5.sw
      refine k_MS_work_72 h5.1 hl ⟨by omega, by omega⟩ ⟨by omega, by omega⟩ ?_
      rw [hw5.1.1, hn]
      refine ⟨h5.2.1.k0, fun _ => k_MS_work_57 h5.1 hl ⟨by omega, by omega⟩ ⟨fun _ => hQ M5 x h5 X5 r2.1 r2.2.1, fun w => absurd rfl w⟩, fun w => absurd (Or.inl (by omega)) w⟩
    | succ c ihc =>
      intro k M5 hk h5 X5 e5
      have hw5 := h5.sw
      obtain ⟨o5, V5, f5, k5, W5, T5, R5, P5⟩ := id h5
      refine k_MS_work_72 o5 hl ⟨by omega, by omega⟩ ⟨by omega, by omega⟩ ?_
      rw [hw5.1.1, hn]
      refine ⟨V5.k0, fun w => by rcases w with w | w; omega; exact absurd rfl w, fun _ => (s_MS_improve (d := d + 2) (Or.inl rfl) o5 V5 (hw5.1.gw hG) (hw5.1.gb hC) (by rw [hw5.1.1]; exact hn) (by rw [hw5.1.1]; omega) W5 X5 h01).mono (fun y M6 h6 => ?_)⟩
      obtain ⟨o6, W6, f6, hy⟩ := h6
      have w56 : sameW M5 M6 s := sameW.of f6 (by omega) (fun x _ _ => by omega) (by omega)
      have i22' : mI M5 (s + 22) = mI M (s + 22) := hw5.1.2.2.2 _ (by omega) (by omega)
      rw [i22', hw5.1.hm, hw5.may] at hy
      have s6 : ∀ j, j ≠ 24 → mI M6 s j = mI M s j := fun j hj => by rw [f6.2.2.2.2.2.2 s (by omega)]; exact k5 j hj
      rcases hy with ⟨y1, y2, y3⟩ | ⟨y1, y2, i, y3, y4, y5, y6⟩
      · subst y1
        exact ⟨⟨by omega, by omega⟩, o6, ihc (k + 1) M6 (by omega) ⟨o6, V5.fi f6, f5.trans (f6.mono (fun y q => by omega)), s6, W6, T5.out f6 (fun y q => by omega), R5.out f6 (fun y q => by omega), P5.out w56 y2⟩ (X5.out f6 (fun y q => by omega)) (y2.trans e5)⟩
      · subst y1
        have hlt : x k < cw M s (cx M s k i) x := by
          unfold betP at y5
          rw [if_pos rfl, hw5.1.hw, hw5.1.hx] at y5
          exact y5
        have epl : ∀ j, pl M6 s j = if j = k then i else pl M5 s j := fun j => by
          unfold pl
          rw [y6]
          by_cases z : j = k
          · rw [if_pos z, if_pos z]; omega
          · rw [if_neg z, if_neg z]
        have P6 : PLo M6 s := by
          intro j hj1 hj2
          rw [w56.1.1] at hj1
          rw [w56.1.hm] at hj2 ⊢
          rw [w56.may, epl, y6]
          by_cases z : j = k
          · rw [if_pos z, if_pos z, z, hw5.1.hm, hw5.may]
            exact ⟨by omega, y3, y4⟩
          · rw [if_neg z, if_neg z]
            exact P5 j hj1 hj2
        have h6 : WH M s M6 := ⟨o6, V5.fi f6, f5.trans (f6.mono (fun y q => by omega)), s6, W6, T5.out f6 (fun y q => by omega), R5.out f6 (fun y q => by omega), P6⟩
        have hw6 := h6.sw
        refine ⟨⟨by omega, by omega⟩, o6, k_MS_work_72 o6 hl ⟨by omega, by omega⟩ ⟨by omega, by omega⟩ ⟨h6.2.1.k0, fun _ => wk_answer hF hG hC hn hL hl h6 (fun M7 y' A' ρ' h7 X7 r7 r7' => ?_), fun w => absurd (Or.inr (fun z => by omega)) w⟩⟩
        obtain ⟨t', ht'⟩ := ms_ex (x := fun k => 1 - y' k) hF n (fun j hj => smp_co (r7.1 j hj).1 (r7.1 j hj).2)
        have e52 : pl M5 s = pl M2 s := by funext j; unfold pl; rw [e5]
        have hup := res_up hG hC hn r2 r7 (k := k) (by omega) y2 (by rw [epl, if_pos rfl]; exact y3) (by rw [epl, if_pos rfl]; exact hlt) (fun j hj hjk => by rw [epl, if_neg hjk, e52])
        exact ih t' (ms_lt hF ht ht' (sr_co_lt hup.1 (k := k) (by omega) hup.2)) y' A' ρ' M7 h7 X7 r7' ht'
end WO
end
