/-! The reference's solver: which states are unknown, how heavy they are, exactly. -/
/-- the weight of state i -/
def hvX (M : mM) (s i : Nat) (w : Int) : Prop := ∃ (D : Int) (v : Nat), 1 ≤ D ∧ (∀ k : Nat, (k : Int) < mny M s i → mayP M s i k → mI M (s + 24) ((mI M (s + 23) i).toNat + k) ≤ D) ∧ (D = 1 ∨ ∃ k : Nat, (k : Int) < mny M s i ∧ mayP M s i k ∧ mI M (s + 24) ((mI M (s + 23) i).toNat + k) = D) ∧ wtA9 D v ∧ w = ((v : Nat) : Int)
/-- D is the greatest multiple of the first k commands, at least 1 -/
def gmX (M : mM) (s i k : Nat) (D : Int) : Prop := (∀ k' : Nat, k' < k → mayP M s i k' → mI M (s + 24) ((mI M (s + 23) i).toNat + k') ≤ D) ∧ (D = 1 ∨ ∃ k' : Nat, k' < k ∧ mayP M s i k' ∧ mI M (s + 24) ((mI M (s + 23) i).toNat + k') = D)
def lokX (M : mM) (s : Nat) (x : Int) : Prop := ∃ e w : Nat → Int, (∀ i : Nat, (i : Int) < mI M s 1 → (unk M s i → e i = 1 ∧ hvX M s i (w i)) ∧ (¬ unk M s i → e i = 0 ∧ w i = 0)) ∧ ((40 < sm e (mI M s 1).toNat ∧ x = 5) ∨ (sm e (mI M s 1).toNat ≤ 40 ∧ 480 < sm w (mI M s 1).toNat ∧ x = 6) ∨ (sm e (mI M s 1).toNat ≤ 40 ∧ sm w (mI M s 1).toNat ≤ 480 ∧ x = 0))
section VSX
variable {G : mG} {d s : Nat} {M : mM}
theorem x_MS_weight {j : Int} (h0 : 1 ≤ j) (h1 : j < 2147483648) (hO : mOk M) : Ci G y_MS_weight d [vl j] M (fun x M' => M' = M ∧ 0 ≤ x ∧ x ≤ 32 ∧ wtA9 j x.toNat) := by
  refine k_MS_weight hO ⟨by omega, by omega⟩ ?_
  suffices H : ∀ (n l : Nat), n + l = 32 → (∀ v : Nat, v < l → (2 : Int) ^ v < 2 * j) → h_MS_weight_2 G d j l M (fun x M' => M' = M ∧ 0 ≤ x ∧ x ≤ 32 ∧ wtA9 j x.toNat) from H 32 0 rfl (fun v hv => absurd hv (by omega))
  intro n
  induction n with
  | zero =>
    intro l hl lw
    have e : l = 32 := by omega
    subst e
    refine k_MS_weight_2 hO ⟨by omega, by omega⟩ ⟨by omega, by omega⟩ ⟨⟨by omega, by omega⟩, fun _ => ⟨rfl, by omega, by omega, ?_, fun v hv => lw v (by omega)⟩, fun c => absurd ?_ c⟩
    · show 2 * j ≤ 4294967296
      omega
    · rw [l_shl1 32 (by omega)]
      unfold cmpL
      split
      · omega
      · have : 2 * j ≤ (2 : Int) ^ 32 := by show 2 * j ≤ 4294967296; omega
        rw [if_pos (by omega)]; omega
  | succ n ih =>
    intro l hl lw
    refine k_MS_weight_2 hO ⟨by omega, by omega⟩ ⟨by omega, by omega⟩ ⟨⟨by omega, by omega⟩, fun c => ⟨rfl, by omega, by omega, ?_, fun v hv => lw v (by rw [Int.toNat_natCast] at hv; exact hv)⟩, fun c => ih (l + 1) (by omega) (fun v hv => ?_)⟩
    · rw [l_shl1 l (by omega)] at c
      rw [Int.toNat_natCast]
      unfold cmpL at c
      split at c
      · omega
      · split at c <;> omega
    · by_cases z : v = l
      · rw [z]
        rw [l_shl1 l (by omega)] at c
        unfold cmpL at c
        split at c
        · omega
        · split at c <;> omega
      · exact lw v (by omega)
theorem x_MS_look (hO : mOk M) (hV : Vk M s) (hG : GW M s) : Ci G y_MS_look (d + 3) [vr s] M (fun x M' => gvQ M s 0 M' ∧ lokX M' s x) := by
  have g1 := hG.1
  have g2 := hG.2.1
  have g3 := hG.2.2.1
  refine k_MS_look hO ⟨hV.k0, (s_MS_grow ⟨by omega, by omega⟩ hO hV hG).mono (fun M1 h1 => ?_)⟩
  obtain ⟨ρ, t, hg⟩ := h1.1
  obtain ⟨o1, f1, -⟩ := hg
  have hV1 := hV.fi f1
  have hG1 := hG.out f1 (by omega) (fun x _ _ => by omega)
  have es : mI M1 s = mI M s := f1.2.2.2.2.2.2 s (by omega)
  refine ⟨o1, ?_⟩
  suffices H : ∀ (n i : Nat) (c a : Int) (e w : Nat → Int), mI M s 1 - i = n → (∀ j : Nat, j < i → (unk M1 s j → e j = 1 ∧ hvX M1 s j (w j)) ∧ (¬ unk M1 s j → e j = 0 ∧ w j = 0)) → a = sm w i → c = sm e i → 0 ≤ a → a ≤ 32 * i → 0 ≤ c → c ≤ i → h_MS_look_11 G (d + 2) s c a i M1 (fun x M' => gvQ M s 0 M' ∧ lokX M' s x) from
    H (mI M s 1).toNat 0 0 0 (fun _ => 0) (fun _ => 0) (by omega) (fun j hj => by omega) rfl rfl (by omega) (by omega) (by omega) (by omega)
  intro n
  induction n with
  | zero =>
    intro i c a e w hn hw ha hc a0 a1 c0 c1
    refine k_MS_look_11 o1 ⟨by omega, by omega⟩ ⟨by omega, by omega⟩ ⟨by omega, by omega⟩ ?_
    rw [es]
    have ei : (mI M s 1).toNat = i := by omega
    refine ⟨hV1.k0, fun _ v hv => ⟨h1, e, w, fun j hj => hw j (by rw [es] at hj; omega), ?_⟩, fun q => by omega⟩
    rw [es, ei, ← ha, ← hc]
    split at hv
    · split at hv
      · exact Or.inr (Or.inr ⟨by omega, by omega, hv⟩)
      · exact Or.inr (Or.inl ⟨by omega, by omega, hv⟩)
    · exact Or.inl ⟨by omega, hv⟩
  | succ n ih =>
    intro i c a e w hn hw ha hc a0 a1 c0 c1
    have hi : (i : Int) < mI M1 s 1 := by rw [es]; omega
    have hcm := hG1.cmd hi
    rw [es] at hcm
    have hm0 : 0 ≤ mny M1 s i ∧ mny M1 s i ≤ 4200 := by unfold mny; omega
    refine k_MS_look_11 o1 ⟨by omega, by omega⟩ ⟨by omega, by omega⟩ ⟨by omega, by omega⟩ ?_
    rw [es, hV1.r4, hV1.r19, hV1.n22, hV1.n36, Int.toNat_natCast]
    refine ⟨hV1.k0, fun q => by omega, fun _ => ⟨hV1.k36, by omega, fun _ => ⟨hV1.k22, by omega⟩, fun q => ?_, fun q => ?_⟩⟩
    · have hu : ¬ unk M1 s i := fun u => by rcases q with q | q; exact u.1 q; exact u.2 q
      refine ih (i + 1) c a (fun j => if j = i then 0 else e j) (fun j => if j = i then 0 else w j) (by omega) (fun j hj => ?_) ?_ ?_ a0 (by omega) c0 (by omega)
      · by_cases z : j = i
        · subst z
          exact ⟨fun u => absurd u hu, fun _ => ⟨if_pos rfl, if_pos rfl⟩⟩
        · show (unk M1 s j → (if j = i then 0 else e j) = 1 ∧ hvX M1 s j (if j = i then 0 else w j)) ∧ (¬ unk M1 s j → (if j = i then 0 else e j) = 0 ∧ (if j = i then 0 else w j) = 0)
          rw [if_neg z, if_neg z]
          exact hw j (by omega)
      · rw [sm, sm_congr (g := w) i (fun j hj => if_neg (by omega)), if_pos rfl, ha, Int.add_zero]
      · rw [sm, sm_congr (g := e) i (fun j hj => if_neg (by omega)), if_pos rfl, hc, Int.add_zero]
    · have hu : unk M1 s i := ⟨fun z => q (Or.inl z), fun z => q (Or.inr z)⟩
      suffices H2 : ∀ (m k : Nat) (D : Int), mny M1 s i - k = m → 1 ≤ D → D < 2147483648 → gmX M1 s i k D → h_MS_look_47 G (d + 2) s (c + 1) a i D k M1 (fun x M' => gvQ M s 0 M' ∧ lokX M' s x) from
        H2 (mny M1 s i).toNat 0 1 (by omega) (by omega) (by omega) ⟨fun k' hk => by omega, Or.inl rfl⟩
      intro m
      induction m with
      | zero =>
        intro k D hm d1 d2 hD
        refine k_MS_look_47 o1 ⟨by omega, by omega⟩ ⟨by omega, by omega⟩ ⟨by omega, by omega⟩ ⟨by omega, by omega⟩ ⟨by omega, by omega⟩ ⟨hV1.k0, (s_MS_many o1 hV1 hG1 hi).mono (fun x M2 h2 => ?_)⟩
        obtain ⟨e2, hx⟩ := h2
        subst e2
        refine ⟨⟨by omega, by omega⟩, o1, fun _ => ?_, fun z => by omega⟩
        refine (x_MS_weight d1 d2 o1).mono (fun y M3 h3 => ?_)
        obtain ⟨e3, y0, y1, y2⟩ := h3
        subst e3
        refine ⟨⟨by omega, by omega⟩, o1, ?_⟩
        refine ih (i + 1) (c + 1) (a + y) (fun j => if j = i then 1 else e j) (fun j => if j = i then y else w j) (by omega) (fun j hj => ?_) ?_ ?_ (by omega) (by omega) (by omega) (by omega)
        · by_cases z : j = i
          · subst z
            refine ⟨fun _ => ⟨if_pos rfl, ?_⟩, fun u => absurd hu u⟩
            show hvX M3 s j (if j = j then y else w j)
            rw [if_pos rfl]
            refine ⟨D, y.toNat, d1, fun k' hk' hp => hD.1 k' (by omega) hp, ?_, y2, by omega⟩
            rcases hD.2 with u | ⟨k', u1, u2, u3⟩
            · exact Or.inl u
            · exact Or.inr ⟨k', by omega, u2, u3⟩
          · show (unk M3 s j → (if j = i then 1 else e j) = 1 ∧ hvX M3 s j (if j = i then y else w j)) ∧ (¬ unk M3 s j → (if j = i then 1 else e j) = 0 ∧ (if j = i then y else w j) = 0)
            rw [if_neg z, if_neg z]
            exact hw j (by omega)
        · rw [sm, sm_congr (g := w) i (fun j hj => if_neg (by omega)), if_pos rfl, ha]
        · rw [sm, sm_congr (g := e) i (fun j hj => if_neg (by omega)), if_pos rfl, hc]
      | succ m ih2 =>
        intro k D hm d1 d2 hD
        have hk9 : (k : Int) < 100000 := by omega
        refine k_MS_look_47 o1 ⟨by omega, by omega⟩ ⟨by omega, by omega⟩ ⟨by omega, by omega⟩ ⟨by omega, by omega⟩ ⟨by omega, by omega⟩ ⟨hV1.k0, (s_MS_many o1 hV1 hG1 hi).mono (fun x M2 h2 => ?_)⟩
        obtain ⟨e2, hx⟩ := h2
        subst e2
        have ec : (mI M2 (s + 23) i + (k : Int)).toNat = (mI M2 (s + 23) i).toNat + k := by omega
        have hik : (k : Int) < mI M2 (s + 23) (i + 1) - mI M2 (s + 23) i := by have : mny M2 s i = mI M2 (s + 23) (i + 1) - mI M2 (s + 23) i := rfl; omega
        rw [hV1.r5, hV1.r6, hV1.n23, hV1.n24, Int.toNat_natCast, ec]
        refine ⟨⟨by omega, by omega⟩, o1, fun z => by omega, fun _ => ⟨hV1.k0, hV1.k23, by omega, hV1.k24, by omega, ?_⟩⟩
        refine (s_MS_may hk9 o1 hV1 hG1 hi).mono (fun y M3 h3 => ?_)
        obtain ⟨e3, hy, hqy⟩ := h3
        subst e3
        refine ⟨⟨by omega, by omega⟩, o1, fun v hv => ?_⟩
        have hr : mI M3 (s + 24) ((mI M3 (s + 23) i).toNat + k) < 2147483648 := by have := (o1 (s + 24) ((mI M3 (s + 23) i).toNat + k)).1; unfold i32 at this; omega
        refine ih2 (k + 1) v (by omega) (by split at hv <;> omega) (by split at hv <;> omega) ⟨fun k' hk' hp => ?_, ?_⟩
        · by_cases z : k' = k
          · subst z
            have hy0 : y ≠ 0 := hqy.2 hp
            split at hv <;> omega
          · have := hD.1 k' (by omega) hp
            split at hv <;> omega
        · split at hv
          · rw [hv]
            rcases hD.2 with u | ⟨k', u1, u2, u3⟩
            · exact Or.inl u
            · exact Or.inr ⟨k', by omega, u2, u3⟩
          · rename_i c9
            exact Or.inr ⟨k, by omega, hqy.1 (fun z => c9 (Or.inl z)), hv.symm⟩
theorem lokX.q {x : Int} (o : mOk M) (h : lokX M s x) : (x = 0 ∨ x = 5 ∨ x = 6) ∧ (x = 0 → lokQ M s) := by
  obtain ⟨e, w, hw, hr⟩ := h
  refine ⟨by rcases hr with ⟨-, y⟩ | ⟨-, -, y⟩ | ⟨-, -, y⟩ <;> omega, fun x0 => ?_⟩
  have hb : sm e (mI M s 1).toNat ≤ 40 ∧ sm w (mI M s 1).toNat ≤ 480 := by
    rcases hr with ⟨-, y⟩ | ⟨-, -, y⟩ | ⟨y1, y2, -⟩
    · omega
    · omega
    · exact ⟨y1, y2⟩
  clear hr
  refine ⟨w, fun i hi => ⟨fun u => ?_, fun u => ((hw i hi).2 u).2⟩, hb.2, ?_⟩
  · obtain ⟨-, D, v, d1, d2, d3, d4, d5⟩ := (hw i hi).1 u
    have D9 : D < 2147483648 := by
      rcases d3 with y | ⟨k, -, -, y⟩
      · omega
      · have q := (o (s + 24) ((mI M (s + 23) i).toNat + k)).1
        unfold i32 at q
        omega
    have v32 : v ≤ 32 := by
      rcases Nat.lt_or_ge 32 v with c | c
      · have q := d4.2 32 c
        have e9 : (2 : Int) ^ 32 = 4294967296 := by decide
        omega
      · exact c
    rw [d5]
    exact ⟨by omega, by omega, D, d1, by rw [Int.toNat_natCast]; exact d4.1, d2⟩
  · rw [sm_congr (g := e) _ (fun i hi => ?_)]
    · exact hb.1
    · show (if unk M s i then (1 : Int) else 0) = e i
      by_cases u : unk M s i
      · rw [if_pos u, ((hw i (by omega)).1 u).1]
      · rw [if_neg u, ((hw i (by omega)).2 u).1]
end VSX
