/-! The reference's solver: growing the set of states that come to the end. -/
def cz (f : Nat → Int) : Nat → Nat
  | 0 => 0
  | n + 1 => cz f n + (if f n = 0 then 1 else 0)
theorem cz_congr {f g : Nat → Int} : ∀ (n : Nat), (∀ j, j < n → f j = g j) → cz f n = cz g n
  | 0, _ => rfl
  | n + 1, h => by rw [cz, cz, cz_congr n (fun j hj => h j (by omega)), h n (by omega)]
theorem cz_set {f g : Nat → Int} {i : Nat} (h0 : f i = 0) (h1 : g i = 1) (h : ∀ j, j ≠ i → g j = f j) : ∀ (n : Nat), i < n → cz g n + 1 = cz f n
  | 0, hi => by omega
  | n + 1, hi => by
    rw [cz, cz]
    by_cases c : i = n
    · rw [← c, h0, h1, cz_congr i (fun j hj => h j (by omega))]
      simp
    · have := cz_set h0 h1 h n (by omega)
      rw [h n (by omega)]
      omega
/-- the marks so far: each marked state comes to states marked before it -/
def gvI (M : mM) (s : Nat) (l : Int) (M1 : mM) (ρ : Nat → Nat) (t : Nat) : Prop := mOk M1 ∧ FI (fun x => x = s + 36) M M1 ∧ (∀ j : Nat, (j : Int) < mI M s 1 → (mI M1 (s + 36) j = 0 ∨ mI M1 (s + 36) j = 1) ∧ (mI M (s + 22) j = 3 → mI M1 (s + 36) j = 1) ∧ (mI M1 (s + 36) j = 1 → ρ j < t ∧ (mI M (s + 22) j = 3 ∨ comesQ (fun x => mkd M1 s x ∧ ρ x < ρ j) M s j l)))
def upR (ρ : Nat → Nat) (i t x : Nat) : Nat := if x = i then t else ρ x
theorem upR_i {ρ : Nat → Nat} {i t : Nat} : upR ρ i t i = t := if_pos rfl
theorem upR_n {ρ : Nat → Nat} {i t x : Nat} (h : x ≠ i) : upR ρ i t x = ρ x := if_neg h
abbrev gvQ (M : mM) (s : Nat) (l : Int) : mM → Prop := fun M' => (∃ ρ t, gvI M s l M' ρ t) ∧ ∀ j : Nat, (j : Int) < mI M s 1 → mI M' (s + 36) j = 0 → ¬ comesQ (mkd M' s) M s j l
section VS
variable {G : mG} {d s : Nat} {M : mM}
theorem gv_mark {M1 M2 : mM} {l : Int} {ρ : Nat → Nat} {t i : Nat} (hG : GW M s) (h : gvI M s l M1 ρ t) (hi : (i : Int) < mI M s 1) (h0 : mI M1 (s + 36) i = 0) (hc : comesQ (mkd M1 s) M s i l) (e2 : M2 = mUI M1 (s + 36) i 1) (o2 : mOk M2) : gvI M s l M2 (upR ρ i t) (t + 1) := by
  obtain ⟨g1, g2, g3⟩ := h
  have f2 : FI (fun x => x = s + 36) M1 M2 := by rw [e2]; exact FI.ui rfl
  have hm : ∀ j, mI M2 (s + 36) j = if j = i then 1 else mI M1 (s + 36) j := fun j => by
    rw [e2, mI_UI]
    by_cases z : j = i
    · rw [if_pos ⟨rfl, z⟩, if_pos z]
    · rw [if_neg (fun w => z w.2), if_neg z]
  refine ⟨o2, g2.trans f2, fun j hj => ?_⟩
  obtain ⟨a1, a2, a3⟩ := g3 j hj
  have mono : ∀ x : Nat, mkd M1 s x → mkd M2 s x ∧ x ≠ i := fun x hx => by
    have : x ≠ i := fun q => by subst q; exact hx h0
    exact ⟨by show mI M2 (s + 36) x ≠ 0; rw [hm, if_neg this]; exact hx, this⟩
  rw [hm]
  by_cases z : j = i
  · subst z
    rw [if_pos rfl]
    refine ⟨Or.inr rfl, fun _ => rfl, fun _ => ⟨by rw [upR_i]; omega, Or.inr (hc.mono hG hi (fun x hx w => ?_))⟩⟩
    have hmx := mono x w
    refine ⟨hmx.1, ?_⟩
    have b := g3 x hx
    have w' : mI M1 (s + 36) x ≠ 0 := w
    have b1 : mI M1 (s + 36) x = 1 := by rcases b.1 with q | q; exact absurd q w'; exact q
    have b2 := (b.2.2 b1).1
    rw [upR_n hmx.2, upR_i]
    exact b2
  · rw [if_neg z]
    refine ⟨a1, a2, fun w => ?_⟩
    obtain ⟨c1, c2⟩ := a3 w
    rw [upR_n z]
    refine ⟨by omega, ?_⟩
    rcases c2 with c2 | c2
    · exact Or.inl c2
    · refine Or.inr (c2.mono hG hj (fun x hx w => ?_))
      have hmx := mono x w.1
      exact ⟨hmx.1, by rw [upR_n hmx.2]; exact w.2⟩
theorem s_MS_grow {l : Int} (hl : i32 l) (hO : mOk M) (hV : Vk M s) (hG : GW M s) : Cv G y_MS_grow (d + 2) [vr s, vi l] M (gvQ M s l) := by
  have h1 := hG.1
  have h2 := hG.2.1
  refine k_MS_grow hO hl ?_
  have h47 : ∀ (Z : Nat) (M1 : mM) (ρ : Nat → Nat) (t : Nat) (f : Int), gvI M s l M1 ρ t → cz (mI M1 (s + 36)) (mI M s 1).toNat ≤ Z → ((f = 0 ∧ ∀ j : Nat, (j : Int) < mI M s 1 → mI M1 (s + 36) j = 0 → ¬ comesQ (mkd M1 s) M s j l) ∨ f = 1) → h_MS_grow_39 G (d + 1) s l f M1 (gvQ M s l) := by
    intro Z
    induction Z with
    | zero =>
      intro M1 ρ t f h hz hf
      suffices H : ∀ (n : Nat) (k : Int), mI M s 1 - k = n → 0 ≤ k → h_MS_grow_47 G (d + 1) s l 0 k M1 (gvQ M s l) by
        refine k_MS_grow_39 h.1 hl ⟨by omega, by omega⟩ ⟨fun c => ⟨⟨ρ, t, h⟩, ?_⟩, fun c => H (mI M s 1).toNat 0 (by omega) (by omega)⟩
        rcases hf with q | q
        · exact q.2
        · omega
      have hV1 := hV.fi h.2.1
      have es : mI M1 s = mI M s := h.2.1.2.2.2.2.2.2 s (by omega)
      have hnz : ∀ j : Nat, (j : Int) < mI M s 1 → mI M1 (s + 36) j ≠ 0 := by
        have aux : ∀ (n : Nat), cz (mI M1 (s + 36)) n = 0 → ∀ j, j < n → mI M1 (s + 36) j ≠ 0 := by
          intro n
          induction n with
          | zero => intro _ j hj; omega
          | succ n ih =>
            intro hc j hj
            rw [cz] at hc
            by_cases q : j = n
            · subst q
              intro w
              rw [if_pos w] at hc
              omega
            · exact ih (by omega) j (by omega)
        exact fun j hj => aux (mI M s 1).toNat (by omega) j (by omega)
      intro n
      induction n with
      | zero =>
        intro k hn hk
        refine k_MS_grow_47 h.1 hl ⟨by omega, by omega⟩ ⟨by omega, by omega⟩ ?_
        rw [es]
        refine ⟨hV1.k0, fun _ => k_MS_grow_39 h.1 hl ⟨by omega, by omega⟩ ⟨fun c => ⟨⟨ρ, t, h⟩, fun j hj w => absurd w (hnz j hj)⟩, fun c => absurd rfl c⟩, fun c => by omega⟩
      | succ n ih =>
        intro k hn hk
        refine k_MS_grow_47 h.1 hl ⟨by omega, by omega⟩ ⟨by omega, by omega⟩ ?_
        rw [es, hV1.r19, hV1.n36]
        refine ⟨hV1.k0, fun c => by omega, fun _ => ⟨hV1.k36, by omega, fun c => absurd c (hnz k.toNat (by omega)), fun _ => ih (k + 1) (by omega) (by omega)⟩⟩
    | succ Z ihZ =>
      intro M1 ρ t f h hz hf
      suffices H : ∀ (n : Nat) (k f : Int) (M2 : mM) (ρ : Nat → Nat) (t : Nat), mI M s 1 - k = n → 0 ≤ k → gvI M s l M2 ρ t → ((f = 0 ∧ cz (mI M2 (s + 36)) (mI M s 1).toNat ≤ Z + 1 ∧ ∀ j : Nat, (j : Int) < k → mI M2 (s + 36) j = 0 → ¬ comesQ (mkd M2 s) M s j l) ∨ (f = 1 ∧ cz (mI M2 (s + 36)) (mI M s 1).toNat ≤ Z)) → h_MS_grow_47 G (d + 1) s l f k M2 (gvQ M s l) by
        refine k_MS_grow_39 h.1 hl ⟨by omega, by omega⟩ ⟨fun c => ⟨⟨ρ, t, h⟩, ?_⟩, fun c => H (mI M s 1).toNat 0 0 M1 ρ t (by omega) (by omega) h (Or.inl ⟨rfl, hz, fun j hj => by omega⟩)⟩
        rcases hf with q | q
        · exact q.2
        · omega
      clear hz hf h f t ρ M1
      intro n
      induction n with
      | zero =>
        intro k f M2 ρ t hn hk h hf
        have hV1 := hV.fi h.2.1
        have es : mI M2 s = mI M s := h.2.1.2.2.2.2.2.2 s (by omega)
        have hf01 : f = 0 ∨ f = 1 := by rcases hf with q | q; exact Or.inl q.1; exact Or.inr q.1
        refine k_MS_grow_47 h.1 hl ⟨by omega, by omega⟩ ⟨by omega, by omega⟩ ?_
        rw [es]
        refine ⟨hV1.k0, fun _ => ?_, fun c => by omega⟩
        rcases hf with q | q
        · refine k_MS_grow_39 h.1 hl ⟨by omega, by omega⟩ ⟨fun _ => ⟨⟨ρ, t, h⟩, fun j hj => q.2.2 j (by omega)⟩, fun c => absurd q.1 c⟩
        · exact ihZ M2 ρ t f h q.2 (Or.inr q.1)
      | succ n ih =>
        intro k f M2 ρ t hn hk h hf
        have hV1 := hV.fi h.2.1
        have hG1 := hG.out h.2.1 (by omega) (fun x _ _ => by omega)
        have es : mI M2 s = mI M s := h.2.1.2.2.2.2.2.2 s (by omega)
        have hf01 : f = 0 ∨ f = 1 := by rcases hf with q | q; exact Or.inl q.1; exact Or.inr q.1
        have ek : ((k.toNat : Nat) : Int) = k := by omega
        refine k_MS_grow_47 h.1 hl ⟨by omega, by omega⟩ ⟨by omega, by omega⟩ ?_
        rw [es, hV1.r19, hV1.n36]
        refine ⟨hV1.k0, fun c => by omega, fun _ => ⟨hV1.k36, by omega, fun c => ?_, fun c => ih (k + 1) f M2 ρ t (by omega) (by omega) h ?_⟩⟩
        · have hcm := s_MS_comes (G := G) (d := d) (i := k.toNat) hl h.1 hV1 hG1 (by rw [es]; omega)
          rw [ek] at hcm
          refine hcm.mono (fun x M3 h3 => ?_)
          obtain ⟨e3, hx, hqx⟩ := h3
          subst e3
          rw [comesQ.out h.2.1 (by omega) (fun x _ _ => by omega)] at hqx
          rw [hV1.r19, hV1.n36]
          refine ⟨⟨by omega, by omega⟩, h.1, fun _ => ⟨hV1.k0, hV1.k36, by omega⟩, fun v hv M4 e4 => ?_⟩
          by_cases z : x = 0
          · rw [if_pos z] at hv e4
            subst e4
            refine ⟨h.1, ?_⟩
            rw [hv]
            refine ih (k + 1) f M4 ρ t (by omega) (by omega) h ?_
            rcases hf with q | q
            · refine Or.inl ⟨q.1, q.2.1, fun j hj w => ?_⟩
              by_cases y : j = k.toNat
              · rw [y]
                exact fun cc => (hqx.2 cc) z
              · exact q.2.2 j (by omega) w
            · exact Or.inr q
          · rw [if_neg z] at hv e4
            have o4 : mOk M4 := by rw [e4]; exact mOk_UI h.1 ⟨by omega, by omega⟩
            have hg := gv_mark hG h (i := k.toNat) (by omega) c (hqx.1 z) e4 o4
            refine ⟨o4, ?_⟩
            rw [hv]
            refine ih (k + 1) 1 M4 _ _ (by omega) (by omega) hg (Or.inr ⟨rfl, ?_⟩)
            have hcs := cz_set (f := mI M3 (s + 36)) (g := mI M4 (s + 36)) (i := k.toNat) c (by rw [e4, mI_UI, if_pos ⟨rfl, rfl⟩]) (fun j hj => by rw [e4, mI_UI, if_neg (fun w => hj w.2)]) (mI M s 1).toNat (by omega)
            rcases hf with q | q
            · have := q.2.1; omega
            · have := q.2; omega
        · rcases hf with q | q
          · refine Or.inl ⟨q.1, q.2.1, fun j hj w => ?_⟩
            by_cases y : j = k.toNat
            · subst y
              exact absurd w c
            · exact q.2.2 j (by omega) w
          · exact Or.inr q
  suffices H : ∀ (n : Nat) (k : Int) (M1 : mM), mI M s 1 - k = n → 0 ≤ k → mOk M1 → FI (fun x => x = s + 36) M M1 → (∀ j : Nat, (j : Int) < k → mI M1 (s + 36) j = if mI M (s + 22) j = 3 then 1 else 0) → h_MS_grow_2 G (d + 1) s l k M1 (gvQ M s l) from
    H (mI M s 1).toNat 0 M (by omega) (by omega) hO FI.refl (fun j hj => by omega)
  intro n
  induction n with
  | zero =>
    intro k M1 hn hk o1 f1 hq
    have hV1 := hV.fi f1
    have es : mI M1 s = mI M s := f1.2.2.2.2.2.2 s (by omega)
    refine k_MS_grow_2 o1 hl ⟨by omega, by omega⟩ ?_
    rw [es]
    refine ⟨hV1.k0, fun _ => h47 _ M1 (fun _ => 0) 1 1 ⟨o1, f1, fun j hj => ?_⟩ (Nat.le_refl _) (Or.inr rfl), fun c => by omega⟩
    have e := hq j (by omega)
    by_cases z : mI M (s + 22) j = 3
    · rw [if_pos z] at e
      exact ⟨Or.inr e, fun _ => e, fun _ => ⟨Nat.zero_lt_one, Or.inl z⟩⟩
    · rw [if_neg z] at e
      exact ⟨Or.inl e, fun w => absurd w z, fun w => by omega⟩
  | succ n ih =>
    intro k M1 hn hk o1 f1 hq
    have hV1 := hV.fi f1
    have es : mI M1 s = mI M s := f1.2.2.2.2.2.2 s (by omega)
    have e22 : mI M1 (s + 22) = mI M (s + 22) := f1.2.2.2.2.2.2 _ (by omega)
    refine k_MS_grow_2 o1 hl ⟨by omega, by omega⟩ ?_
    rw [es, hV1.r4, hV1.r19, hV1.n22, hV1.n36, e22]
    refine ⟨hV1.k0, fun c => by omega, fun _ => ⟨hV1.k22, by omega, fun v hv => ⟨hV1.k36, by omega, fun M2 e2 => ?_⟩⟩⟩
    refine ih (k + 1) M2 (by omega) (by omega) (by rw [e2]; exact mOk_UI o1 ⟨by split at hv <;> omega, by split at hv <;> omega⟩) (f1.trans (by rw [e2]; exact FI.ui rfl)) (fun j hj => ?_)
    rw [e2, mI_UI]
    by_cases z : j = k.toNat
    · rw [if_pos ⟨rfl, z⟩, hv, z]
    · rw [if_neg (fun w => z w.2)]
      exact hq j (by omega)
end VS
