section
/-! The solver: all pivots. -/
/-- the table after k pivots -/
def tA (p : Nat → Nat → Rat) (m k : Nat) : Nat → Nat → Rat := fun i j => if j = m then gq p k i j else if j < k then (if i = j then 1 else 0) else (if i = j then 1 else 0) - gq p k i j
/-- m equations in m unknowns whose numbers stay small -/
def Sy (m : Nat) (p : Nat → Nat → Rat) (N : Nat → Nat → Int) (D : Nat → Int) : Prop := (∃ h, gok m 0 p h) ∧ (∀ r c, r < m → c ≤ m → (D r : Rat) * p r c = (N r c : Rat)) ∧ (∀ r, r < m → 0 < D r) ∧ (∀ i k, i < m → k ≤ m → D i * det k (bm N D) < 16777216 ^ 56 ∧ det k (bm N D) < 16777216 ^ 21)
section SY
variable {m : Nat} {p : Nat → Nat → Rat} {N : Nat → Nat → Int} {D : Nat → Int}
theorem sml_of {x : Rat} {i k : Nat} (h : Sy m p N D) (hi : i < m) (hk : k ≤ m) (he : ∃ z : Int, x * ((D i * det k (bm N D) : Int) : Rat) = (z : Rat)) (h1 : x ≤ 1) (h2 : -1 ≤ x) : Sml x := by
  obtain ⟨⟨h, g⟩, hp, hD, hE⟩ := h
  obtain ⟨z, hz⟩ := he
  exact ⟨_, z, Int.mul_pos (hD i hi) (det_pos g hp hD k hk), (hE i k hi hk).1, hz, h1, h2⟩
theorem Sy.q01 (h : Sy m p N D) {i j k : Nat} (hi : i < m) (hk : k ≤ j) (hj : j ≤ m) : 0 ≤ gq p k i j ∧ gq p k i j ≤ 1 := by
  obtain ⟨⟨h, g⟩, -⟩ := h
  have g2 := gok_all g k (by omega)
  refine ⟨g2.1 i j hi hk hj, ?_⟩
  have a := g2.2.1 i hi
  have b := sr_one (f := fun t => gq p k i (k + t)) (j := j - k) (m + 1 - k) (by omega) (fun c hc => g2.1 i _ hi (by omega) (by omega))
  have e : gq p k i (k + (j - k)) = gq p k i j := by rw [show k + (j - k) = j by omega]
  have b2 : gq p k i (k + (j - k)) ≤ sr (fun t => gq p k i (k + t)) (m + 1 - k) := b
  rw [e] at b2
  exact Rat.le_trans b2 a
theorem sml_one : Sml 1 := ⟨1, 1, by omega, by decide, by grind, by grind, by grind⟩
theorem sml_zero : Sml 0 := ⟨1, 0, by omega, by decide, by grind, by grind, by grind⟩
theorem tA_sml (h : Sy m p N D) {i j k : Nat} (hi : i < m) (hk : k ≤ m) (hj : j ≤ m) : Sml (tA p m k i j) := by
  unfold tA
  by_cases q : j = m
  · rw [if_pos q]
    have a := h.q01 hi (k := k) (by omega) hj
    obtain ⟨⟨h', g⟩, hp, -⟩ := id h
    exact sml_of h hi hk (gq_int2 g hp hk hj hi) a.2 (by grind)
  · rw [if_neg q]
    by_cases w : j < k
    · rw [if_pos w]
      by_cases e : i = j
      · rw [if_pos e]; exact sml_one
      · rw [if_neg e]; exact sml_zero
    · rw [if_neg w]
      have a := h.q01 hi (k := k) (by omega) hj
      obtain ⟨⟨h', g⟩, hp, -⟩ := id h
      obtain ⟨z, hz⟩ := gq_int2 g hp hk hj hi
      by_cases e : i = j
      · rw [if_pos e]
        refine sml_of h hi hk ⟨D i * det k (bm N D) - z, ?_⟩ (by grind) (by grind)
        rw [Rat.intCast_sub, ← hz]
        grind
      · rw [if_neg e]
        refine sml_of h hi hk ⟨- z, ?_⟩ (by grind) (by grind)
        rw [Rat.intCast_neg, ← hz]
        grind
theorem tA_m {k i : Nat} : tA p m k i m = gq p k i m := if_pos rfl
theorem tA_lt {k i j : Nat} (h : j < k) (h2 : j ≠ m) : tA p m k i j = if i = j then 1 else 0 := by
  unfold tA
  rw [if_neg h2, if_pos h]
theorem tA_ge {k i j : Nat} (h : k ≤ j) (h2 : j ≠ m) : tA p m k i j = (if i = j then 1 else 0) - gq p k i j := by
  unfold tA
  rw [if_neg h2, if_neg (by omega)]
theorem tA_row (h : Sy m p N D) {k b : Nat} (hk : k < m) (h1 : k ≤ b) (h2 : b ≤ m) : tA p m k k b * (tA p m k k k)⁻¹ = tA p m (k + 1) k b := by
  obtain ⟨⟨h', g⟩, -⟩ := h
  have hp := gok_pivot (gok_all g k (by omega)) hk
  have hw1 : (1 - gq p k k k) * (1 - gq p k k k)⁻¹ = 1 := Rat.mul_inv_cancel _ (by grind)
  have e0 : tA p m k k k = 1 - gq p k k k := by rw [tA_ge (by omega) (by omega), if_pos rfl]
  have hg : gq p (k + 1) k b = gq p k k b + gq p k k k * ((1 - gq p k k k)⁻¹ * gq p k k b) := rfl
  rw [e0]
  by_cases q : b = m
  · subst q
    rw [tA_m, tA_m, hg]
    generalize (1 - gq p k k k)⁻¹ = w at *
    grind
  · by_cases z : b = k
    · subst z
      rw [e0, tA_lt (by omega) q, if_pos rfl]
      exact hw1
    · rw [tA_ge (by omega) q, tA_ge (by omega) q, hg, if_neg (by omega)]
      generalize (1 - gq p k k k)⁻¹ = w at *
      grind
theorem tA_el (h : Sy m p N D) {k a b : Nat} (hk : k < m) (ha : a ≠ k) (h1 : k ≤ b) (h2 : b ≤ m) : tA p m k a b - tA p m k a k * tA p m (k + 1) k b = tA p m (k + 1) a b := by
  obtain ⟨⟨h', g⟩, -⟩ := h
  have hp := gok_pivot (gok_all g k (by omega)) hk
  have hw1 : (1 - gq p k k k) * (1 - gq p k k k)⁻¹ = 1 := Rat.mul_inv_cancel _ (by grind)
  have e0 : tA p m k a k = 0 - gq p k a k := by rw [tA_ge (by omega) (by omega), if_neg ha]
  have hg : ∀ i, gq p (k + 1) i b = gq p k i b + gq p k i k * ((1 - gq p k k k)⁻¹ * gq p k k b) := fun i => rfl
  rw [e0]
  by_cases q : b = m
  · subst q
    rw [tA_m, tA_m, tA_m, hg, hg]
    generalize (1 - gq p k k k)⁻¹ = w at *
    grind
  · by_cases z : b = k
    · subst z
      rw [e0, tA_lt (by omega) q, tA_lt (by omega) q, if_pos rfl, if_neg ha]
      grind
    · rw [tA_ge (by omega) q, tA_ge (by omega) q, tA_ge (by omega) q, hg, hg, if_neg (show ¬ k = b by omega)]
      generalize (1 - gq p k k k)⁻¹ = w at *
      by_cases y : a = b
      · rw [if_pos y]
        grind
      · rw [if_neg y]
        grind
theorem sml_b {x : Rat} (h : Sml x) : x ≤ 1 ∧ -1 ≤ x := by
  obtain ⟨E, z, -, -, -, h1, h2⟩ := h
  exact ⟨h1, h2⟩
end SY
section VS
variable {G : mG} {d s m : Nat} {M : mM} {p : Nat → Nat → Rat} {N : Nat → Nat → Int} {D : Nat → Int}
theorem s_MS_solveRows (hm : m ≤ 40) (hO : mOk M) (hV : Vk M s) (h24 : mI M s 24 = m) (hW : Wk M s) (h : Sy m p N D) (hT : Tb M s m (tA p m 0)) :
    Cv G y_MS_solveRows (d + 6) [vr s] M (fun M' => mOk M' ∧ FI (cS s m) M M' ∧ Wk M' s ∧ Tb M' s m (tA p m m)) := by
  refine k_MS_solveRows hO ?_
  suffices H : ∀ (n k : Nat) (M2 : mM), k + n = m → mOk M2 → FI (cS s m) M M2 → Wk M2 s → Tb M2 s m (tA p m k) → h_MS_solveRows_2 G (d + 5) s k M2 (fun M' => mOk M' ∧ FI (cS s m) M M' ∧ Wk M' s ∧ Tb M' s m (tA p m m)) from
    H m 0 M (by omega) hO FI.refl hW hT
  intro n
  induction n with
  | zero =>
    intro k M2 hn o2 f2 W2 T2
    have es : mI M2 s = mI M s := f2.2.2.2.2.2.2 s (by omega)
    have ek : k = m := by omega
    subst ek
    refine k_MS_solveRows_2 o2 ⟨by omega, by omega⟩ ?_
    rw [es, h24]
    exact ⟨(hV.fi f2).k0, fun _ => ⟨o2, f2, W2, T2⟩, fun c => by omega⟩
  | succ n ih =>
    intro k M2 hn o2 f2 W2 T2
    have hV2 := hV.fi f2
    have es : mI M2 s = mI M s := f2.2.2.2.2.2.2 s (by omega)
    have hk : k < m := by omega
    refine k_MS_solveRows_2 o2 ⟨by omega, by omega⟩ ?_
    rw [es, h24]
    refine ⟨hV2.k0, fun c => by omega, fun _ => ?_⟩
    have hpv : tA p m k k k ≠ 0 := by
      obtain ⟨⟨h', g⟩, -⟩ := h
      have hp := gok_pivot (gok_all g k (by omega)) hk
      have e0 : tA p m k k k = 1 - gq p k k k := by
        unfold tA
        rw [if_neg (by omega), if_neg (by omega), if_pos rfl]
      rw [e0]
      grind
    refine s_row (d := d + 1) hm hk o2 hV2 W2 T2 hpv (fun b h1 h2 => by rw [tA_row h hk h1 h2]; exact tA_sml h hk (by omega) h2) (fun M3 o3 f3 W3 T3 => ?_)
    have hB : ∀ a b, a < m → b ≤ m → dvA (tA p m k) k ((k : Int) + (-1)) a b = if a = k then tA p m (k + 1) k b else tA p m k a b := by
      intro a b ha hb
      show (if a = k ∧ (k : Int) + (-1) < (b : Int) then tA p m k k b * (tA p m k k k)⁻¹ else tA p m k a b) = _
      by_cases q : a = k
      · rw [if_pos q]
        by_cases z : k ≤ b
        · rw [if_pos ⟨q, by omega⟩, tA_row h hk z hb]
        · rw [if_neg (by omega), q]
          rw [tA_lt (by omega) (by omega), tA_lt (by omega) (by omega)]
      · rw [if_neg q, if_neg (by omega)]
    have T3' := T3.congr hB
    have es3 : mI M3 s = mI M2 s := f3.2.2.2.2.2.2 s (by omega)
    refine s_clear (d := d) hm hk o3 (hV2.fi f3) (by rw [es3, es, h24]) W3 T3' (fun a b ha hb => ?_) (fun a b ha hak h1 h2 => ?_) (fun M4 o4 f4 W4 T4 => ?_)
    · by_cases q : a = k
      · rw [if_pos q]; exact sml_b (tA_sml h hk (by omega) hb)
      · rw [if_neg q]; exact sml_b (tA_sml h ha (by omega) hb)
    · rw [if_neg hak, if_neg hak, if_pos rfl, tA_el h hk hak h1 h2]
      exact tA_sml h ha (by omega) h2
    · refine ih (k + 1) M4 (by omega) o4 ((f2.trans f3).trans f4) W4 (T4.congr (fun a b ha hb => ?_))
      show (if a < m ∧ a ≠ k ∧ k ≤ b then (if a = k then tA p m (k + 1) k b else tA p m k a b) - (if a = k then tA p m (k + 1) k k else tA p m k a k) * (if k = k then tA p m (k + 1) k b else tA p m k k b) else (if a = k then tA p m (k + 1) k b else tA p m k a b)) = tA p m (k + 1) a b
      by_cases q : a = k
      · rw [if_neg (by omega), if_pos q, q]
      · rw [if_neg q, if_neg q, if_pos rfl]
        by_cases z : k ≤ b
        · rw [if_pos ⟨ha, q, z⟩, tA_el h hk q z hb]
        · rw [if_neg (by omega)]
          rw [tA_lt (by omega) (by omega), tA_lt (by omega) (by omega)]
end VS
end
section
/-! What a command is worth: a sum over its branches. -/
theorem sr_lt {f g : Nat → Rat} : ∀ (n : Nat), (∀ j, j < n → f j ≤ g j) → (∃ j, j < n ∧ f j < g j) → sr f n < sr g n
  | 0, _, h => by obtain ⟨j, h, _⟩ := h; omega
  | n + 1, h, h2 => by
    obtain ⟨j, h3, h4⟩ := h2
    rw [sr, sr]
    by_cases q : j = n
    · subst q
      have a := sr_le j (fun i hi => h i (by omega))
      grind
    · have a := sr_lt n (fun i hi => h i (by omega)) ⟨j, by omega, h4⟩
      have b := h n (by omega)
      grind
/-- the chance of branch b -/
def chq (M : mM) (s b : Nat) : Rat := (mI M (s + 27) b : Rat) * (mI M (s + 28) b : Rat)⁻¹
/-- where the branches of command c begin, how many they are, where branch b leads -/
def bg (M : mM) (s c : Nat) : Nat := (mI M (s + 25) c).toNat
def nb (M : mM) (s c : Nat) : Nat := (mI M (s + 25) (c + 1) - mI M (s + 25) c).toNat
def tg (M : mM) (s b : Nat) : Nat := (mI M (s + 26) b).toNat
def cx (M : mM) (s k i : Nat) : Nat := (mI M (s + 23) k).toNat + i
def cw (M : mM) (s c : Nat) (f : Nat → Rat) : Rat := sr (fun b => chq M s (bg M s c + b) * f (tg M s (bg M s c + b))) (nb M s c)
/-- the chances of each command are sound -/
def GB (M : mM) (s : Nat) : Prop := ∀ c : Nat, (c : Int) < mI M s 2 → (1 ≤ mI M (s + 24) c ∧ mI M (s + 24) c < 1000000000 ∧ nb M s c ≤ 8) ∧ (∀ b, b < nb M s c → 0 < mI M (s + 27) (bg M s c + b) ∧ 0 < mI M (s + 28) (bg M s c + b) ∧ mI M (s + 28) (bg M s c + b) ∣ mI M (s + 24) c) ∧ sm (fun b => mI M (s + 27) (bg M s c + b) * (mI M (s + 24) c / mI M (s + 28) (bg M s c + b))) (nb M s c) = mI M (s + 24) c
/-- nothing of the game has changed -/
def sameG (M M' : mM) (s : Nat) : Prop := mI M' s 1 = mI M s 1 ∧ mI M' s 2 = mI M s 2 ∧ mI M' s 3 = mI M s 3 ∧ ∀ x, s + 22 ≤ x → x ≤ s + 28 → mI M' x = mI M x
theorem sameG.of {S : Nat → Prop} {M M' : mM} {s : Nat} (f : FI S M M') (h0 : ¬ S s) (h1 : ∀ x, s + 22 ≤ x → x ≤ s + 28 → ¬ S x) : sameG M M' s := by
  have f := f.2.2.2.2.2.2
  exact ⟨by rw [f s h0], by rw [f s h0], by rw [f s h0], fun x a b => f x (h1 x a b)⟩
theorem sameG.trans {M M' M'' : mM} {s : Nat} (h : sameG M M' s) (h' : sameG M' M'' s) : sameG M M'' s :=
  ⟨h'.1.trans h.1, h'.2.1.trans h.2.1, h'.2.2.1.trans h.2.2.1, fun x a b => (h'.2.2.2 x a b).trans (h.2.2.2 x a b)⟩
theorem sameG.refl {M : mM} {s : Nat} : sameG M M s := ⟨rfl, rfl, rfl, fun _ _ _ => rfl⟩
section SG
variable {M M' : mM} {s : Nat}
theorem sameG.gw (h : sameG M M' s) (g : GW M s) : GW M' s := by
  unfold GW at g ⊢
  rw [h.1, h.2.1, h.2.2.1, h.2.2.2 (s + 23) (by omega) (by omega), h.2.2.2 (s + 25) (by omega) (by omega), h.2.2.2 (s + 26) (by omega) (by omega)]
  exact g
theorem sameG.hq (h : sameG M M' s) : chq M' s = chq M s := by
  funext b
  unfold chq
  rw [h.2.2.2 (s + 27) (by omega) (by omega), h.2.2.2 (s + 28) (by omega) (by omega)]
theorem sameG.hb (h : sameG M M' s) : bg M' s = bg M s := by
  funext c
  unfold bg
  rw [h.2.2.2 (s + 25) (by omega) (by omega)]
theorem sameG.hn (h : sameG M M' s) : nb M' s = nb M s := by
  funext c
  unfold nb
  rw [h.2.2.2 (s + 25) (by omega) (by omega)]
theorem sameG.ht (h : sameG M M' s) : tg M' s = tg M s := by
  funext c
  unfold tg
  rw [h.2.2.2 (s + 26) (by omega) (by omega)]
theorem sameG.hx (h : sameG M M' s) : cx M' s = cx M s := by
  funext k i
  unfold cx
  rw [h.2.2.2 (s + 23) (by omega) (by omega)]
theorem sameG.hw (h : sameG M M' s) : cw M' s = cw M s := by
  funext c f
  unfold cw
  rw [h.hq, h.hb, h.hn, h.ht]
theorem sameG.gb (h : sameG M M' s) (g : GB M s) : GB M' s := by
  unfold GB at g ⊢
  rw [h.2.1, h.hn, h.hb, h.2.2.2 (s + 24) (by omega) (by omega), h.2.2.2 (s + 27) (by omega) (by omega), h.2.2.2 (s + 28) (by omega) (by omega)]
  exact g
theorem sameG.hm (h : sameG M M' s) : mny M' s = mny M s := by
  funext k
  unfold mny
  rw [h.2.2.2 (s + 23) (by omega) (by omega)]
end SG
section CW
variable {M : mM} {s c : Nat}
theorem GB.chq_pos (h : GB M s) (hc : (c : Int) < mI M s 2) {b : Nat} (hb : b < nb M s c) : 0 < chq M s (bg M s c + b) := by
  obtain ⟨h1, h2, -⟩ := (h c hc).2.1 b hb
  exact Rat.mul_pos (Rat.intCast_pos.2 h1) (Rat.inv_pos.2 (Rat.intCast_pos.2 h2))
theorem GB.chq_int (h : GB M s) (hc : (c : Int) < mI M s 2) {b : Nat} (hb : b < nb M s c) : (mI M (s + 24) c : Rat) * chq M s (bg M s c + b) = ((mI M (s + 27) (bg M s c + b) * (mI M (s + 24) c / mI M (s + 28) (bg M s c + b)) : Int) : Rat) := by
  obtain ⟨h1, h2, h3⟩ := (h c hc).2.1 b hb
  have e := Int.mul_ediv_cancel' h3
  have e2 : (mI M (s + 24) c : Rat) = (mI M (s + 28) (bg M s c + b) : Rat) * ((mI M (s + 24) c / mI M (s + 28) (bg M s c + b) : Int) : Rat) := by rw [← Rat.intCast_mul, e]
  have e3 := Rat.mul_inv_cancel _ (ic_ne h2)
  unfold chq
  rw [Rat.intCast_mul]
  generalize ((mI M (s + 24) c / mI M (s + 28) (bg M s c + b) : Int) : Rat) = z at *
  generalize (mI M (s + 28) (bg M s c + b) : Rat)⁻¹ = w at *
  generalize (mI M (s + 28) (bg M s c + b) : Rat) = v at *
  generalize (mI M (s + 27) (bg M s c + b) : Rat) = y at *
  rw [e2]
  grind
theorem cw_le (h : GB M s) (hc : (c : Int) < mI M s 2) {f g : Nat → Rat} (hf : ∀ b, b < nb M s c → f (tg M s (bg M s c + b)) ≤ g (tg M s (bg M s c + b))) : cw M s c f ≤ cw M s c g := by
  refine sr_le _ (fun b hb => ?_)
  have a := Rat.mul_nonneg (Rat.le_of_lt (h.chq_pos hc hb)) (b := g (tg M s (bg M s c + b)) - f (tg M s (bg M s c + b))) (by have := hf b hb; grind)
  grind
theorem cw_lt (h : GB M s) (hc : (c : Int) < mI M s 2) {f g : Nat → Rat} (hf : ∀ b, b < nb M s c → f (tg M s (bg M s c + b)) ≤ g (tg M s (bg M s c + b))) (hl : ∃ b, b < nb M s c ∧ f (tg M s (bg M s c + b)) < g (tg M s (bg M s c + b))) : cw M s c f < cw M s c g := by
  refine sr_lt _ (fun b hb => ?_) ?_
  · have a := Rat.mul_nonneg (Rat.le_of_lt (h.chq_pos hc hb)) (b := g (tg M s (bg M s c + b)) - f (tg M s (bg M s c + b))) (by have := hf b hb; grind)
    grind
  · obtain ⟨b, hb, hl⟩ := hl
    have a := Rat.mul_pos (h.chq_pos hc hb) (b := g (tg M s (bg M s c + b)) - f (tg M s (bg M s c + b))) (by grind)
    exact ⟨b, hb, by grind⟩
theorem cw_congr {f g : Nat → Rat} (hf : ∀ b, b < nb M s c → f (tg M s (bg M s c + b)) = g (tg M s (bg M s c + b))) : cw M s c f = cw M s c g := by
  refine sr_congr _ (fun b hb => ?_)
  rw [hf b hb]
theorem cw_add {f g : Nat → Rat} : cw M s c (fun k => f k + g k) = cw M s c f + cw M s c g := by
  unfold cw
  rw [← sr_add]
  exact sr_congr _ (fun b hb => by grind)
theorem cw_mul {x : Rat} {f : Nat → Rat} : cw M s c (fun k => x * f k) = x * cw M s c f := by
  unfold cw
  rw [← sr_mul]
  exact sr_congr _ (fun b hb => by grind)
theorem cw_int (h : GB M s) (hc : (c : Int) < mI M s 2) {f : Nat → Int} : (mI M (s + 24) c : Rat) * cw M s c (fun k => (f k : Rat)) = ((sm (fun b => mI M (s + 27) (bg M s c + b) * (mI M (s + 24) c / mI M (s + 28) (bg M s c + b)) * f (tg M s (bg M s c + b))) (nb M s c) : Int) : Rat) := by
  unfold cw
  rw [sm_cast, ← sr_mul]
  refine sr_congr _ (fun b hb => ?_)
  have e := h.chq_int hc hb
  rw [Rat.intCast_mul, ← e]
  grind
theorem cw_one (h : GB M s) (hc : (c : Int) < mI M s 2) : cw M s c (fun _ => 1) = 1 := by
  have e := cw_int h hc (f := fun _ => 1)
  have e2 : sm (fun b => mI M (s + 27) (bg M s c + b) * (mI M (s + 24) c / mI M (s + 28) (bg M s c + b)) * 1) (nb M s c) = mI M (s + 24) c := by
    rw [sm_congr (g := fun b => mI M (s + 27) (bg M s c + b) * (mI M (s + 24) c / mI M (s + 28) (bg M s c + b))) _ (fun b hb => by omega)]
    exact (h c hc).2.2
  have e1 : cw M s c (fun _ => 1) = cw M s c (fun k => (((fun _ => 1) k : Int) : Rat)) := rfl
  rw [e2] at e
  rw [e1]
  have hp := (h c hc).1.1
  have e3 := Rat.inv_mul_cancel _ (ic_ne (x := mI M (s + 24) c) (by omega))
  generalize (mI M (s + 24) c : Rat) = v at *
  generalize cw M s c (fun k => (((fun _ => 1) k : Int) : Rat)) = w at *
  have e4 : v⁻¹ * (v * w) = v⁻¹ * v := by rw [e]
  grind
theorem cw_const (h : GB M s) (hc : (c : Int) < mI M s 2) {x : Rat} : cw M s c (fun _ => x) = x := by
  have e := cw_mul (M := M) (s := s) (c := c) (x := x) (f := fun _ => 1)
  rw [cw_one h hc] at e
  have e1 : cw M s c (fun _ => x) = cw M s c (fun _ => x * 1) := cw_congr (fun b hb => by grind)
  rw [e1, e]
  grind
end CW
/-- a value that k parts hold -/
def Smp (k : Nat) (x : Rat) : Prop := ∃ E z : Int, 0 < E ∧ E < 16777216 ^ k ∧ x * (E : Rat) = (z : Rat) ∧ x ≤ 1 ∧ -1 ≤ x
theorem smp_size {M : mM} {f r k : Nat} (hF : Fq M f r) (hC : Fc M f) (h : Smp k (fv M f)) : mI M (f + 1) 1 ≤ k ∧ mI M (f + 3) 1 ≤ k := by
  obtain ⟨E, z, h0, h1, h2, h3, h4⟩ := h
  have b := fv_abs hF h3 h4
  exact fc_size hF hC h2 h0 h1 b.1 b.2
theorem smp_fq {M : mM} {f : Nat} (hF : Fq M f 56) (h1 : fv M f ≤ 1) (h2 : -1 ≤ fv M f) : Smp 56 (fv M f) := by
  have p : 0 < sd M f := hF.2.2.2.2
  refine ⟨sd M f, sn M f, p, ?_, fv_sd hF, h1, h2⟩
  exact Int.lt_of_lt_of_le hF.2.2.1.lt (pow_mono (by have := hF.2.2.1.1.2.2.2.2.2.2; omega))
theorem smp_mul {x : Rat} {k : Nat} {u v : Int} (h : Smp k x) (h1 : 0 ≤ u) (h2 : u ≤ v) (h3 : 0 < v) (h4 : v < 1000000000) : Smp (k + 2) ((u : Rat) * (v : Rat)⁻¹ * x) := by
  obtain ⟨E, z, e0, e1, e2, e3, e4⟩ := h
  have hv : (0 : Rat) < (v : Rat) := Rat.intCast_pos.2 h3
  have hi := Rat.mul_inv_cancel _ (ic_ne h3)
  have hi0 : (0 : Rat) < (v : Rat)⁻¹ := Rat.inv_pos.2 hv
  have c0 : (0 : Rat) ≤ (u : Rat) := by exact_mod_cast h1
  have c1 : (u : Rat) ≤ (v : Rat) := by exact_mod_cast h2
  have b1 : (u : Rat) * (v : Rat)⁻¹ ≤ 1 := by
    have a := Rat.mul_nonneg (a := (v : Rat) - (u : Rat)) (by grind) (Rat.le_of_lt hi0)
    grind
  have b2 : 0 ≤ (u : Rat) * (v : Rat)⁻¹ := Rat.mul_nonneg c0 (Rat.le_of_lt hi0)
  have b3 := abs_mul1 b1 (by grind) e3 e4
  refine ⟨v * E, u * z, Int.mul_pos h3 e0, ?_, ?_, b3.1, b3.2⟩
  · rw [show (16777216 : Int) ^ (k + 2) = 16777216 ^ 2 * 16777216 ^ k by rw [Int.pow_add, Int.mul_comm]]
    exact mul_lt_B (by omega) e1 (by omega) (by omega)
  · rw [Rat.intCast_mul, Rat.intCast_mul, ← e2]
    grind
theorem smp_add {x y : Rat} {k l : Nat} (h : Smp k x) (h' : Smp l y) (h1 : x + y ≤ 1) (h2 : -1 ≤ x + y) : Smp (k + l) (x + y) := by
  obtain ⟨E, z, e0, e1, e2, e3, e4⟩ := h
  obtain ⟨E', z', e0', e1', e2', e3', e4'⟩ := h'
  refine ⟨E * E', z * E' + z' * E, Int.mul_pos e0 e0', ?_, ?_, h1, h2⟩
  · rw [Int.pow_add]
    exact mul_lt_B e1 e1' (by omega) (by omega)
  · rw [Rat.intCast_mul, Rat.intCast_add, Rat.intCast_mul, Rat.intCast_mul, ← e2, ← e2']
    grind
end
section
/-! The solver: what a command is worth. -/
theorem sr_part {f : Nat → Rat} {a : Nat} : ∀ (n : Nat), (∀ c, c < a + n → 0 ≤ f c) → sr f a ≤ sr f (a + n)
  | 0, _ => Rat.le_refl
  | n + 1, h => by
    have h1 := sr_part (f := f) (a := a) n (fun c hc => h c (by omega))
    have h2 := h (a + n) (by omega)
    have e : sr f (a + (n + 1)) = sr f (a + n) + f (a + n) := rfl
    grind
theorem fc_one {M : mM} {f r : Nat} (hF : Fq M f r) (h1 : sd M f = 1) (h2 : sn M f = 0 → mI M f 2 = 0) : Fc M f := by
  have e4 : xn M (f + 3) = 1 := by
    have : sd M f = wv M (f + 3) := rfl
    unfold xn
    omega
  refine ⟨by rw [e4]; exact Nat.gcd_one_right _, fun q => h2 ?_⟩
  unfold sn
  rw [q]
  split <;> rfl
theorem alg_ud {U V y : Rat} (q : V * y = 1) (w : 0 ≤ (1 - U * y) * V) : U ≤ V := by
  have e : (1 - U * y) * V = V - U * (V * y) := by grind
  rw [e, q] at w
  grind
theorem ud_le {u v : Int} (h : 0 < v) (h2 : (u : Rat) * (v : Rat)⁻¹ ≤ 1) : u ≤ v := by
  have p : (0 : Rat) < (v : Rat) := Rat.intCast_pos.2 h
  have q := Rat.mul_inv_cancel _ (ic_ne h)
  have w := Rat.mul_nonneg (a := 1 - (u : Rat) * (v : Rat)⁻¹) (by grind) (Rat.le_of_lt p)
  exact ic_le (alg_ud q w)
/-- n fractions hold x -/
def Xt (M : mM) (s e n : Nat) (x : Nat → Rat) : Prop := ∀ k, k < n → Fq M (s + e + 25 * k) 56 ∧ Fc M (s + e + 25 * k) ∧ fv M (s + e + 25 * k) = x k
theorem Xt.out {S : Nat → Prop} {M M' : mM} {s e n : Nat} {x : Nat → Rat} (h : Xt M s e n x) (k : FI S M M') (hs : ∀ y, S y → y < s + e ∨ s + e + 25 * n ≤ y) : Xt M' s e n x := by
  intro i hi
  obtain ⟨h1, h2, h3⟩ := h i hi
  have hs' : ∀ y, S y → y < s + e + 25 * i ∨ s + e + 25 * i + 4 < y := fun y q => by have := hs y q; omega
  exact ⟨(h1.out k hs').1, h2.out h1 k hs', by rw [fv_out h1 k hs', h3]⟩
abbrev wS (s : Nat) : Nat → Prop := fun x => (s + 2 ≤ x ∧ x ≤ s + 21) ∨ (s + 42 ≤ x ∧ x ≤ s + 46) ∨ (s + 52 ≤ x ∧ x ≤ s + 61)
theorem Wk.far {S : Nat → Prop} {M M' : mM} {s : Nat} (h : Wk M s) (k : FI S M M') (hs : ∀ x, S x → s + 22 ≤ x ∧ x < s + 42 ∨ s + 66 < x ∨ x ≤ s) : Wk M' s :=
  h.out k (h.1.far k (fun x q => by have := hs x q; omega)) (fun x q => by have := hs x q; omega)
/-- one of the solver's fractions is written -/
theorem Wk.put {M M' : mM} {s a r : Nat} (h : Wk M s) (k : FI (fS a) M M') (hf : Ft M' a r) (ha : (a = s + 42 ∧ r = 8) ∨ (a = s + 47 ∧ r = 56) ∨ ((a = s + 52 ∨ a = s + 57 ∨ a = s + 62) ∧ r = 900)) : Wk M' s := by
  have hk : ∀ y, fS a y → a ≤ y ∧ y ≤ a + 4 := fun y q => q
  have h0 := h.1.far k (fun x q => by have := hk x q; omega)
  obtain ⟨-, h1, h2, h3, h4, h5⟩ := h
  rcases ha with ⟨ha, hr⟩ | ⟨ha, hr⟩ | ⟨ha | ha | ha, hr⟩ <;> subst ha hr
  · exact ⟨h0, hf, h2.out k (fun x q => by have := hk x q; omega), h3.out k (fun x q => by have := hk x q; omega), h4.out k (fun x q => by have := hk x q; omega), h5.out k (fun x q => by have := hk x q; omega)⟩
  · exact ⟨h0, h1.out k (fun x q => by have := hk x q; omega), hf, h3.out k (fun x q => by have := hk x q; omega), h4.out k (fun x q => by have := hk x q; omega), h5.out k (fun x q => by have := hk x q; omega)⟩
  · exact ⟨h0, h1.out k (fun x q => by have := hk x q; omega), h2.out k (fun x q => by have := hk x q; omega), hf, h4.out k (fun x q => by have := hk x q; omega), h5.out k (fun x q => by have := hk x q; omega)⟩
  · exact ⟨h0, h1.out k (fun x q => by have := hk x q; omega), h2.out k (fun x q => by have := hk x q; omega), h3.out k (fun x q => by have := hk x q; omega), hf, h5.out k (fun x q => by have := hk x q; omega)⟩
  · exact ⟨h0, h1.out k (fun x q => by have := hk x q; omega), h2.out k (fun x q => by have := hk x q; omega), h3.out k (fun x q => by have := hk x q; omega), h4.out k (fun x q => by have := hk x q; omega), hf⟩
/-- what worthOf leaves behind -/
def woG (p : Nat) (M : mM) (s c : Nat) (x : Nat → Rat) (M' : mM) : Prop := mOk M' ∧ FI (wS s) M M' ∧ Wk M' s ∧ Fq M' (s + 52) 900 ∧ Fc M' (s + 52) ∧ fv M' (s + 52) = cw M s c x ∧ Smp ((p + 2) * 8 + 1) (cw M s c x)
abbrev woQ (M : mM) (s c : Nat) (x : Nat → Rat) : mM → Prop := woG 56 M s c x
section VS
variable {G : mG} {d s n : Nat} {M : mM} {x : Nat → Rat}
theorem s_worthG {k i B st e p : Nat} (hp : p ≤ 56) (hxs : ∀ t, t < n → Smp p (x t)) (hB : (B = s + 38 ∧ st = 1 ∧ e = 88) ∨ (B = s + 29 ∧ st = 3 ∧ e = 68)) (hO : mOk M) (hV : Vk M s) (hG : GW M s) (hC : GB M s) (hn : mI M s 1 = n) (hk : (k : Int) < mI M s 1) (hi : (i : Int) < mny M s k) (hW : Wk M s) (hX : Xt M s e n x) (h01 : ∀ t, t < n → 0 ≤ x t ∧ x t ≤ 1) :
    Cv G y_MS_worthOf (d + 5) [vr s, vi k, vi i, vr B, vi 0, vi st] M (woG p M s (cx M s k i) x) := by
  have hc := hG.cmd hk
  have hi' := hi
  unfold mny at hi'
  have hcx : (cx M s k i : Int) = mI M (s + 23) k + i := by unfold cx; omega
  have hc2 : (cx M s k i : Int) < mI M s 2 := by omega
  have hb := hG.brn hc2
  have h2 := hG.2.1
  have h3 := hG.2.2.1
  have h4 := hG.2.2.2.1
  have ht := hG.2.2.2.2.2.2.2.2.2.2
  have ebg : (bg M s (cx M s k i) : Int) = mI M (s + 25) (cx M s k i) := by unfold bg; omega
  have enb : (nb M s (cx M s k i) : Int) = mI M (s + 25) (cx M s k i + 1) - mI M (s + 25) (cx M s k i) := by unfold nb; omega
  have hn8 := (hC _ hc2).1.2.2
  have hm := (hC _ hc2).1.2.1
  have hm1 := (hC _ hc2).1.1
  have hbr := (hC _ hc2).2.1
  generalize hcc : cx M s k i = c at *
  have htg : ∀ b, b < nb M s c → tg M s (bg M s c + b) < n ∧ (tg M s (bg M s c + b) : Int) = mI M (s + 26) (bg M s c + b) := fun b hb => by
    have := ht (bg M s c + b) (by omega)
    unfold tg
    omega
  have hle : cw M s c x ≤ 1 := by
    have a := cw_le hC hc2 (f := x) (g := fun _ => 1) (fun b hb => (h01 _ (htg b hb).1).2)
    rw [cw_one hC hc2] at a
    exact a
  have hnn : ∀ b, b < nb M s c → 0 ≤ chq M s (bg M s c + b) * x (tg M s (bg M s c + b)) := fun b hb => Rat.mul_nonneg (Rat.le_of_lt (hC.chq_pos hc2 hb)) (h01 _ (htg b hb).1).1
  have hpart : ∀ b, b ≤ nb M s c → 0 ≤ sr (fun b => chq M s (bg M s c + b) * x (tg M s (bg M s c + b))) b ∧ sr (fun b => chq M s (bg M s c + b) * x (tg M s (bg M s c + b))) b ≤ 1 := fun b hb => by
    refine ⟨sr_nonneg b (fun j hj => hnn j (by omega)), ?_⟩
    have a := sr_part (f := fun b => chq M s (bg M s c + b) * x (tg M s (bg M s c + b))) (a := b) (nb M s c - b) (fun j hj => hnn j (by omega))
    rw [show b + (nb M s c - b) = nb M s c by omega] at a
    exact Rat.le_trans a hle
  refine k_MS_worthOf hO ⟨by omega, by omega⟩ ⟨by omega, by omega⟩ ⟨by omega, by omega⟩ ⟨by omega, by omega⟩ ?_
  rw [hV.r5, hV.n23, hV.r28, Int.toNat_natCast, ← hcx]
  refine ⟨hV.k0, hV.k23, by omega, hW.2.2.2.1.1.1, (s_MF_set ⟨by omega, by omega⟩ (by omega) ⟨by omega, by omega⟩ (by omega) hO hW.2.2.2.1 (by omega)).mono (fun M1 h1 => ?_)⟩
  obtain ⟨o1, f1, F1, v1, v2, v3⟩ := h1
  have f1' : FI (wS s) M M1 := f1.mono (fun y q => by have : s + 52 ≤ y ∧ y ≤ s + 52 + 4 := q; omega)
  have V1 := hV.fi f1
  have G1 : sameG M M1 s := sameG.of f1' (by omega) (fun y _ _ => by omega)
  have W1 : Wk M1 s := hW.put f1 F1.ft (by omega)
  have C1 := fc_one F1 v2 (fun _ => v3 rfl)
  have e1 : fv M1 (s + 52) = 0 := by
    rw [fv_set v1 v2]
    have : ((0 : Int) : Rat) = 0 := rfl
    grind
  rw [V1.r7, V1.n25, Int.toNat_natCast, G1.2.2.2 (s + 25) (by omega) (by omega)]
  refine ⟨o1, V1.k0, V1.k25, by omega, ?_⟩
  have X1 := hX.out f1' (fun y q => by omega)
  suffices H : ∀ (r b : Nat) (M2 : mM), b + r = nb M s c → mOk M2 → FI (wS s) M M2 → Wk M2 s → Fq M2 (s + 52) 900 → Fc M2 (s + 52) → fv M2 (s + 52) = sr (fun b => chq M s (bg M s c + b) * x (tg M s (bg M s c + b))) b → Smp ((p + 2) * b + 1) (fv M2 (s + 52)) → h_MS_worthOf_28 G (d + 4) s B 0 st c (mI M (s + 25) c + b) M2 (woG p M s c x) by
    have a := H (nb M s c) 0 M1 (by omega) o1 f1' W1 F1 C1 e1 ⟨1, 0, by omega, by rw [Nat.mul_zero]; decide, by rw [e1]; grind, by rw [e1]; decide, by rw [e1]; decide⟩
    rw [show mI M (s + 25) c + ((0 : Nat) : Int) = mI M (s + 25) c by omega] at a
    exact a
  clear e1 C1 W1 G1 V1 f1' v3 v2 v1 F1 f1 o1 X1 M1
  intro r
  induction r with
  | zero =>
    intro b M2 hr o2 f2 W2 F2 C2 e2 S2
    have V2 := hV.fi f2
    have G2 : sameG M M2 s := sameG.of f2 (by omega) (fun y _ _ => by omega)
    have eb : b = nb M s c := by omega
    subst eb
    refine k_MS_worthOf_28 o2 ⟨by omega, by omega⟩ ⟨by omega, by omega⟩ ⟨by omega, by omega⟩ ⟨by omega, by omega⟩ ?_
    rw [V2.r7, V2.n25, G2.2.2.2 (s + 25) (by omega) (by omega), show ((c : Int) + 1).toNat = c + 1 by omega]
    refine ⟨V2.k0, V2.k25, by omega, fun _ => ⟨o2, f2, W2, F2, C2, e2, ?_⟩, fun q => by omega⟩
    have e3 : fv M2 (s + 52) = cw M s c x := e2
    rw [e3] at S2
    obtain ⟨E, z, a0, a1, a2⟩ := S2
    exact ⟨E, z, a0, Int.lt_of_lt_of_le a1 (pow_mono (Nat.add_le_add_right (Nat.mul_le_mul_left _ hn8) 1)), a2⟩
  | succ r ih =>
    intro b M2 hr o2 f2 W2 F2 C2 e2 S2
    have hbn : b < nb M s c := by omega
    have V2 := hV.fi f2
    have G2 : sameG M M2 s := sameG.of f2 (by omega) (fun y _ _ => by omega)
    have X2 := hX.out f2 (fun y q => by omega)
    obtain ⟨u0, u1, u2⟩ := hbr b hbn
    have u3 : mI M (s + 28) (bg M s c + b) ≤ mI M (s + 24) c := Int.le_of_dvd (by omega) u2
    have u4 : mI M (s + 27) (bg M s c + b) ≤ mI M (s + 28) (bg M s c + b) := by
      have a := sr_one (f := fun b => chq M s (bg M s c + b) * (fun _ => 1) (tg M s (bg M s c + b))) (nb M s c) hbn (fun j hj => Rat.mul_nonneg (Rat.le_of_lt (hC.chq_pos hc2 hj)) (by grind))
      have a1 := cw_one hC hc2
      unfold cw at a1
      rw [a1] at a
      have a2 : chq M s (bg M s c + b) ≤ 1 := by
        have a3 : chq M s (bg M s c + b) * 1 ≤ 1 := a
        rw [Rat.mul_one] at a3
        exact a3
      exact ud_le u1 a2
    have ebb : (mI M (s + 25) c + (b : Int)).toNat = bg M s c + b := by omega
    obtain ⟨t1, t2⟩ := htg b hbn
    refine k_MS_worthOf_28 o2 ⟨by omega, by omega⟩ ⟨by omega, by omega⟩ ⟨by omega, by omega⟩ ⟨by omega, by omega⟩ ?_
    rw [V2.r7, V2.r9, V2.r10, V2.r26, V2.n25, V2.n27, V2.n28, G2.2.2.2 (s + 25) (by omega) (by omega), G2.2.2.2 (s + 27) (by omega) (by omega), G2.2.2.2 (s + 28) (by omega) (by omega), show ((c : Int) + 1).toNat = c + 1 by omega, ebb]
    refine ⟨V2.k0, V2.k25, by omega, fun q => by omega, fun _ => ⟨V2.k27, by omega, V2.k28, by omega, W2.2.1.1.1, (s_MF_set ⟨by omega, by omega⟩ (by omega) ⟨by omega, by omega⟩ (by omega) o2 W2.2.1 (by omega)).mono (fun M3 h3 => ?_)⟩⟩
    obtain ⟨o3, f3, F3, v1, v2, -⟩ := h3
    have f3' : FI (wS s) M2 M3 := f3.mono (fun y q => by have : s + 42 ≤ y ∧ y ≤ s + 42 + 4 := q; omega)
    have V3 := V2.fi f3
    have G3 : sameG M M3 s := sameG.of (f2.trans f3') (by omega) (fun y _ _ => by omega)
    have W3' : Wk M3 s := W2.put f3 F3.ft (by omega)
    have X3 := X2.out f3' (fun y q => by omega)
    have x3 := X3 _ t1
    have hBk : mK M3 B = 36 ∧ ((0 : Int) ≤ (st : Int) * mI M (s + 26) (bg M s c + b) + 0 ∧ (st : Int) * mI M (s + 26) (bg M s c + b) + 0 < (mN M3 B : Int)) ∧ mR M3 B ((st : Int) * mI M (s + 26) (bg M s c + b) + 0).toNat = s + e + 25 * tg M s (bg M s c + b) := by
      rw [← t2]
      rcases hB with ⟨b1, b2, b3⟩ | ⟨b1, b2, b3⟩ <;> subst b1 b2 b3
      · rw [show ((((1 : Nat) : Int)) * (tg M s (bg M s c + b) : Int) + 0).toNat = tg M s (bg M s c + b) by omega, V3.f38 _ (by omega), V3.n38]
        exact ⟨V3.k38, by omega, rfl⟩
      · rw [show ((((3 : Nat) : Int)) * (tg M s (bg M s c + b) : Int) + 0).toNat = 3 * tg M s (bg M s c + b) + 0 by omega, V3.f29 _ 0 (by omega) (by omega), V3.n29]
        exact ⟨V3.k29, by omega, by omega⟩
    rw [V3.r8, V3.r0, V3.r26, V3.n26, G3.2.2.2 (s + 26) (by omega) (by omega), hBk.2.2]
    have z1 := F3.2.1.1.2.2.2.2.2.2
    have z2 := F3.2.2.1.1.2.2.2.2.2.2
    have z3 := x3.1.2.1.1.2.2.2.2.2.2
    have z4 := x3.1.2.2.1.1.2.2.2.2.2.2
    refine ⟨o3, V3.k0, V3.k26, by omega, hBk.1, hBk.2.1, W3'.1.1.1, (s_MU_multiply (d := d) o3 W3'.1 F3 x3.1 (by unfold suO; omega) (by unfold suO; omega) (by omega) (by omega)).mono (fun M4 h4 => ?_)⟩
    have v4 := fv_mul F3 x3.1 h4
    rw [x3.2.2, fv_set v1 v2] at v4
    have hs4 : Smp (p + 2) (fv M4 (s + 1 + 1)) := by
      rw [v4]
      exact smp_mul (hxs _ t1) (by omega) (by omega) (by omega) (by omega)
    have hpb : (p + 2) * b ≤ 464 := Nat.le_trans (Nat.mul_le_mul_left _ (show b ≤ 8 by omega)) (by omega)
    have hpb1 : (p + 2) * (b + 1) = (p + 2) * b + (p + 2) := Nat.mul_succ _ _
    obtain ⟨o4, f4, Z4, F4, C4, -⟩ := h4
    have f4' : FI (fun y => s + 2 ≤ y ∧ y ≤ s + 21) M3 M4 := f4.mono (fun y q => by omega)
    have V4 := V3.fi f4
    have W4 : Wk M4 s := W3'.out f4' Z4 (fun y q => by omega)
    have sz4 := smp_size F4 C4 hs4
    rw [V4.r0, V4.r29, Z4.1.2.1]
    refine ⟨o4, V4.k0, Z4.1.1, W4.2.2.2.2.1.1.1, (s_MF_copy o4 W4.2.2.2.2.1 F4 (by omega) (by omega) (by omega)).mono (fun M5 h5 => ?_)⟩
    obtain ⟨o5, f5, F5, w4, w5, w6⟩ := h5
    have f5' : FI (fun y => s + 57 ≤ y ∧ y ≤ s + 61) M4 M5 := f5.mono (fun y q => by have : s + 57 ≤ y ∧ y ≤ s + 57 + 4 := q; omega)
    have C5 := fc_copy C4 w4 w5 w6
    have V5 := V4.fi f5
    have W5 : Wk M5 s := W4.put f5 F5.ft (by omega)
    have k52 : ∀ y, fS (s + 42) y → y < s + 52 ∨ s + 52 + 4 < y := fun y q => by have : s + 42 ≤ y ∧ y ≤ s + 42 + 4 := q; omega
    have a1 := F2.out f3 k52
    have a2 := C2.out F2 f3 k52
    have a3 := fv_out F2 f3 k52
    have b1 := a1.1.out f4' (fun y q => by omega)
    have b2 := a2.out a1.1 f4' (fun y q => by omega)
    have b3 := fv_out a1.1 f4' (fun y q => by omega)
    have c1 := b1.1.out f5' (fun y q => by omega)
    have c2 := b2.out b1.1 f5' (fun y q => by omega)
    have c3 := fv_out b1.1 f5' (fun y q => by omega)
    have e5 : fv M5 (s + 52) = fv M2 (s + 52) := by rw [c3, b3, a3]
    rw [← e5] at S2 e2
    have sz5 := smp_size c1.1 c2 S2
    have sz6 := smp_size F5 C5.1 (by rw [C5.2]; exact hs4)
    rw [V5.r0, V5.r28, V5.r29]
    refine ⟨o5, V5.k0, W5.1.1.1, (s_MU_add (d := d) (Or.inl rfl) o5 W5.1 c1.1 F5 (by unfold suO; omega) (by unfold suO; omega) (by omega) (by omega) (by omega)).mono (fun M6 h6 => ?_)⟩
    have v6 := fv_add (Or.inl rfl) c1.1 F5 h6
    rw [if_neg (by omega), C5.2, v4] at v6
    have hv6 : fv M6 (s + 1 + 1) = sr (fun b => chq M s (bg M s c + b) * x (tg M s (bg M s c + b))) (b + 1) := by
      rw [v6, e2, sr]
      rfl
    have hs6 : Smp ((p + 2) * (b + 1) + 1) (fv M6 (s + 1 + 1)) := by
      have a := hpart (b + 1) (by omega)
      have b' := smp_add S2 (by rw [v4] at hs4; exact hs4) (by rw [← v6, hv6]; exact a.2) (by rw [← v6, hv6]; grind)
      rw [v6]
      obtain ⟨E, z, q0, q1, q2⟩ := b'
      exact ⟨E, z, q0, Int.lt_of_lt_of_le q1 (pow_mono (by omega)), q2⟩
    obtain ⟨o6, f6, Z6, F6, C6, -⟩ := h6
    have f6' : FI (fun y => s + 2 ≤ y ∧ y ≤ s + 21) M5 M6 := f6.mono (fun y q => by omega)
    have V6 := V5.fi f6
    have W6 : Wk M6 s := W5.out f6' Z6 (fun y q => by omega)
    have sz7 := smp_size F6 C6 hs6
    rw [V6.r0, V6.r28, Z6.1.2.1]
    refine ⟨o6, V6.k0, Z6.1.1, W6.2.2.2.1.1.1, (s_MF_copy o6 W6.2.2.2.1 F6 (by omega) (by omega) (by omega)).mono (fun M7 h7 => ?_)⟩
    obtain ⟨o7, f7, F7, y4, y5, y6⟩ := h7
    have f7' : FI (fun y => s + 52 ≤ y ∧ y ≤ s + 56) M6 M7 := f7.mono (fun y q => by have : s + 52 ≤ y ∧ y ≤ s + 52 + 4 := q; omega)
    have C7 := fc_copy C6 y4 y5 y6
    have ff : FI (wS s) M2 M7 := (((f3'.trans (f4'.mono (fun y q => by omega))).trans (f5'.mono (fun y q => by omega))).trans (f6'.mono (fun y q => by omega))).trans (f7'.mono (fun y q => by omega))
    have hlast := ih (b + 1) M7 (by omega) o7 (f2.trans ff) (W6.put f7 F7.ft (by omega)) F7 C7.1 (by rw [C7.2, hv6]) (by rw [C7.2]; exact hs6)
    rw [show mI M (s + 25) c + ((b + 1 : Nat) : Int) = mI M (s + 25) c + (b : Int) + 1 by omega] at hlast
    exact ⟨o7, hlast⟩
theorem s_MS_worthOf {k i B st e : Nat} (hB : (B = s + 38 ∧ st = 1 ∧ e = 88) ∨ (B = s + 29 ∧ st = 3 ∧ e = 68)) (hO : mOk M) (hV : Vk M s) (hG : GW M s) (hC : GB M s) (hn : mI M s 1 = n) (hk : (k : Int) < mI M s 1) (hi : (i : Int) < mny M s k) (hW : Wk M s) (hX : Xt M s e n x) (h01 : ∀ t, t < n → 0 ≤ x t ∧ x t ≤ 1) :
    Cv G y_MS_worthOf (d + 5) [vr s, vi k, vi i, vr B, vi 0, vi st] M (woQ M s (cx M s k i) x) := by
  refine s_worthG (p := 56) (by omega) (fun t ht => ?_) hB hO hV hG hC hn hk hi hW hX h01
  obtain ⟨x1, x2, x3⟩ := hX t ht
  have a := h01 t ht
  have b := smp_fq x1 (by rw [x3]; exact a.2) (by rw [x3]; grind)
  rw [x3] at b
  exact b
end VS
end
section
/-! The solver: the equations are written down. -/
/-- some cells hold A -/
def Tp (M : mM) (s : Nat) (P : Nat → Nat → Prop) (A : Nat → Nat → Rat) : Prop := ∀ i j, i < 40 → j < 41 → P i j → Fq M (cel s i j) 56 ∧ Fc M (cel s i j) ∧ fv M (cel s i j) = A i j
/-- all cells have room -/
def Ct (M : mM) (s : Nat) : Prop := ∀ i j, i < 40 → j < 41 → Ft M (cel s i j) 56
theorem Ct.out {S : Nat → Prop} {M M' : mM} {s : Nat} (h : Ct M s) (k : FI S M M') (hs : ∀ x, S x → x < s + 12868) : Ct M' s :=
  fun i j hi hj => (h i j hi hj).out k (fun x q => Or.inl (by have := hs x q; unfold cel; omega))
theorem Ct.put {M M' : mM} {s i j : Nat} (h : Ct M s) (hi : i < 40) (hj : j < 41) (k : FI (fS (cel s i j)) M M') (h1 : Ft M' (cel s i j) 56) : Ct M' s := by
  intro a b ha hb
  by_cases q : a = i ∧ b = j
  · rw [q.1, q.2]; exact h1
  · refine (h a b ha hb).out k (fun x w => ?_)
    have w' : cel s i j ≤ x ∧ x ≤ cel s i j + 4 := w
    unfold cel at w' ⊢
    by_cases z : a = i
    · subst z
      have : b ≠ j := fun y => q ⟨rfl, y⟩
      omega
    · omega
theorem Tp.out {S : Nat → Prop} {M M' : mM} {s : Nat} {P : Nat → Nat → Prop} {A : Nat → Nat → Rat} (h : Tp M s P A) (k : FI S M M') (hs : ∀ x, S x → x < s + 12868) : Tp M' s P A := by
  intro i j hi hj hp
  obtain ⟨h1, h2, h3⟩ := h i j hi hj hp
  have hs' : ∀ x, S x → x < cel s i j ∨ cel s i j + 4 < x := fun x q => Or.inl (by have := hs x q; unfold cel; omega)
  exact ⟨(h1.out k hs').1, h2.out h1 k hs', by rw [fv_out h1 k hs', h3]⟩
theorem Tp.put {M M' : mM} {s i j : Nat} {P Q : Nat → Nat → Prop} {A B : Nat → Nat → Rat} (h : Tp M s P A) (hi : i < 40) (hj : j < 41) (k : FI (fS (cel s i j)) M M') (h1 : Fq M' (cel s i j) 56) (h2 : Fc M' (cel s i j)) (h3 : fv M' (cel s i j) = B i j) (hq : ∀ a b, Q a b → (a = i ∧ b = j) ∨ (P a b ∧ B a b = A a b)) : Tp M' s Q B := by
  intro a b ha hb hp
  by_cases q : a = i ∧ b = j
  · obtain ⟨q1, q2⟩ := q
    subst q1 q2
    exact ⟨h1, h2, h3⟩
  · have hp2 : P a b ∧ B a b = A a b := by
      rcases hq a b hp with w | w
      · exact absurd w q
      · exact w
    obtain ⟨g1, g2, g3⟩ := h a b ha hb hp2.1
    have hs' : ∀ x, fS (cel s i j) x → x < cel s a b ∨ cel s a b + 4 < x := fun x w => by
      have w' : cel s i j ≤ x ∧ x ≤ cel s i j + 4 := w
      unfold cel at w' ⊢
      by_cases z : a = i
      · subst z
        have : b ≠ j := fun y => q ⟨rfl, y⟩
        omega
      · omega
    refine ⟨(g1.out k hs').1, g2.out g1 k hs', ?_⟩
    rw [fv_out g1 k hs', g3, hp2.2]
theorem Tp.congr {M : mM} {s : Nat} {P Q : Nat → Nat → Prop} {A B : Nat → Nat → Rat} (h : Tp M s P A) (hq : ∀ a b, a < 40 → b < 41 → Q a b → P a b ∧ B a b = A a b) : Tp M s Q B := by
  intro a b ha hb hp
  have w := hq a b ha hb hp
  obtain ⟨g1, g2, g3⟩ := h a b ha hb w.1
  exact ⟨g1, g2, g3.trans w.2.symm⟩
/-- the states of the rows, the commands played there -/
def uu (M : mM) (s r : Nat) : Nat := (mI M (s + 39) r).toNat
def pl (M : mM) (s k : Nat) : Nat := (mI M (s + 35) k).toNat
def rwc (M : mM) (s r : Nat) : Nat := cx M s (uu M s r) (pl M s (uu M s r))
/-- the rows are the unknown states, each once; what is played there is a command -/
def Enu (M : mM) (s m : Nat) : Prop := (∀ r, r < m → 0 ≤ mI M (s + 39) r ∧ mI M (s + 39) r < mI M s 1 ∧ unk M s (uu M s r) ∧ mI M (s + 40) (uu M s r) = r) ∧ (∀ k : Nat, (k : Int) < mI M s 1 → unk M s k → 0 ≤ mI M (s + 40) k ∧ mI M (s + 40) k < m ∧ mI M (s + 39) (mI M (s + 40) k).toNat = k)
  ∧ (∀ r, r < m → 0 ≤ mI M (s + 35) (uu M s r) ∧ mI M (s + 35) (uu M s r) < mny M s (uu M s r)) ∧ (∀ k : Nat, (k : Int) < mI M s 1 → mI M (s + 22) k = 3 → mI M (s + 36) k ≠ 0)
theorem Enu.out {S : Nat → Prop} {M M' : mM} {s m : Nat} (h : Enu M s m) (f : FI S M M') (h0 : ¬ S s) (h1 : ∀ x, s + 22 ≤ x → x ≤ s + 40 → ¬ S x) : Enu M' s m := by
  have f := f.2.2.2.2.2.2
  unfold Enu unk uu mny at h ⊢
  rw [f s h0, f (s + 22) (h1 _ (by omega) (by omega)), f (s + 23) (h1 _ (by omega) (by omega)), f (s + 35) (h1 _ (by omega) (by omega)), f (s + 36) (h1 _ (by omega) (by omega)), f (s + 39) (h1 _ (by omega) (by omega)), f (s + 40) (h1 _ (by omega) (by omega))]
  exact h
/-- the first b branches of command c -/
def cwp (M : mM) (s c b : Nat) (f : Nat → Int) : Rat := sr (fun b => chq M s (bg M s c + b) * (f (tg M s (bg M s c + b)) : Rat)) b
def isU (M : mM) (s j : Nat) : Nat → Int := fun k => if k = uu M s j then 1 else 0
def isT (M : mM) (s : Nat) : Nat → Int := fun k => if mI M (s + 22) k = 3 then 1 else 0
/-- the equations -/
def rowp (M : mM) (s m : Nat) : Nat → Nat → Rat := fun i j => cw M s (rwc M s i) (fun k => ((if j = m then isT M s else isU M s j) k : Rat))
def wrA (M : mM) (s m i b : Nat) : Nat → Nat → Rat := fun a j => if a = i then (if j = m then cwp M s (rwc M s i) b (isT M s) else (if i = j then 1 else 0) - cwp M s (rwc M s i) b (isU M s j)) else tA (rowp M s m) m 0 a j
abbrev rS (s : Nat) : Nat → Prop := fun x => (s + 2 ≤ x ∧ x ≤ s + 21) ∨ (s + 42 ≤ x ∧ x ≤ s + 46) ∨ (s + 12868 ≤ x ∧ x ≤ s + 21067)
section CP
variable {M : mM} {s c : Nat}
theorem cwp_succ {b : Nat} {f : Nat → Int} : cwp M s c (b + 1) f = cwp M s c b f + chq M s (bg M s c + b) * (f (tg M s (bg M s c + b)) : Rat) := rfl
theorem cwp_01 (hC : GB M s) (hc : (c : Int) < mI M s 2) {f : Nat → Int} (hf : ∀ k, f k = 0 ∨ f k = 1) {b : Nat} (hb : b ≤ nb M s c) : 0 ≤ cwp M s c b f ∧ cwp M s c b f ≤ 1 := by
  have hnn : ∀ j, j < nb M s c → 0 ≤ chq M s (bg M s c + j) * (f (tg M s (bg M s c + j)) : Rat) := fun j hj => Rat.mul_nonneg (Rat.le_of_lt (hC.chq_pos hc hj)) (by
    rcases hf (tg M s (bg M s c + j)) with q | q <;> rw [q] <;> decide)
  refine ⟨sr_nonneg b (fun j hj => hnn j (by omega)), ?_⟩
  have a := sr_part (f := fun b => chq M s (bg M s c + b) * (f (tg M s (bg M s c + b)) : Rat)) (a := b) (nb M s c - b) (fun j hj => hnn j (by omega))
  rw [show b + (nb M s c - b) = nb M s c by omega] at a
  have e := cw_le hC hc (f := fun k => (f k : Rat)) (g := fun _ => 1) (fun j hj => by rcases hf (tg M s (bg M s c + j)) with q | q <;> rw [q] <;> decide)
  rw [cw_one hC hc] at e
  exact Rat.le_trans a e
theorem cwp_int (hC : GB M s) (hc : (c : Int) < mI M s 2) {f : Nat → Int} {b : Nat} (hb : b ≤ nb M s c) : (mI M (s + 24) c : Rat) * cwp M s c b f = ((sm (fun b => mI M (s + 27) (bg M s c + b) * (mI M (s + 24) c / mI M (s + 28) (bg M s c + b)) * f (tg M s (bg M s c + b))) b : Int) : Rat) := by
  unfold cwp
  rw [sm_cast, ← sr_mul]
  refine sr_congr _ (fun j hj => ?_)
  have e := hC.chq_int hc (b := j) (by omega)
  rw [Rat.intCast_mul, ← e]
  grind
theorem isU_01 {j k : Nat} : isU M s j k = 0 ∨ isU M s j k = 1 := by unfold isU; split <;> omega
theorem isT_01 {k : Nat} : isT M s k = 0 ∨ isT M s k = 1 := by unfold isT; split <;> omega
theorem p30_56 : (1000000000 : Int) ≤ 16777216 ^ 56 := by decide
theorem cwp_sml (hC : GB M s) (hc : (c : Int) < mI M s 2) {f : Nat → Int} (hf : ∀ k, f k = 0 ∨ f k = 1) {b : Nat} (hb : b ≤ nb M s c) : Sml (cwp M s c b f) ∧ Sml (1 - cwp M s c b f) ∧ Sml (0 - cwp M s c b f) := by
  have a := cwp_01 hC hc hf hb
  have e := cwp_int hC hc (f := f) hb
  have m1 := (hC c hc).1
  have p := p30_56
  refine ⟨⟨mI M (s + 24) c, _, by omega, by omega, by rw [Rat.mul_comm]; exact e, a.2, by grind⟩, ⟨mI M (s + 24) c, mI M (s + 24) c - sm (fun b => mI M (s + 27) (bg M s c + b) * (mI M (s + 24) c / mI M (s + 28) (bg M s c + b)) * f (tg M s (bg M s c + b))) b, by omega, by omega, ?_, by grind, by grind⟩, ⟨mI M (s + 24) c, - sm (fun b => mI M (s + 27) (bg M s c + b) * (mI M (s + 24) c / mI M (s + 28) (bg M s c + b)) * f (tg M s (bg M s c + b))) b, by omega, by omega, ?_, by grind, by grind⟩⟩
  · rw [Rat.intCast_sub, ← e]
    grind
  · rw [Rat.intCast_neg, ← e]
    grind
theorem wrA_sml (hC : GB M s) {m i b j : Nat} (hc : (rwc M s i : Int) < mI M s 2) (hb : b ≤ nb M s (rwc M s i)) : Sml (wrA M s m i b i j) := by
  unfold wrA
  rw [if_pos rfl]
  by_cases q : j = m
  · rw [if_pos q]; exact (cwp_sml hC hc (fun k => isT_01) hb).1
  · rw [if_neg q]
    have w := (cwp_sml hC hc (f := isU M s j) (fun k => isU_01) hb).2
    by_cases z : i = j
    · rw [if_pos z]; exact w.1
    · rw [if_neg z]; exact w.2
theorem wrA_end {m i : Nat} (hm : m ≤ 40) {a j : Nat} : wrA M s m i (nb M s (rwc M s i)) a j = tA (rowp M s m) m 0 a j := by
  unfold wrA
  by_cases q : a = i
  · subst q
    rw [if_pos rfl]
    by_cases z : j = m
    · rw [if_pos z, z, tA_m]
      show _ = rowp M s m a m
      unfold rowp
      rw [if_pos rfl]
      rfl
    · rw [if_neg z, tA_ge (by omega) z]
      show _ = (if a = j then (1 : Rat) else 0) - rowp M s m a j
      unfold rowp
      rw [if_neg z]
      rfl
  · rw [if_neg q]
end CP
end
section
/-! The solver: writeRows. -/
theorem alg3 {a b c : Rat} : a - (b + c * 1) = a - b + -c := by grind
theorem alg4 {a b c : Rat} : a - (b + c * 0) = a - b := by grind
section VS
variable {G : mG} {d s m : Nat} {M : mM}
/-- what is known while row i is written -/
def wrI (M : mM) (s : Nat) (P : Nat → Nat → Prop) (A : Nat → Nat → Rat) (M2 : mM) : Prop := mOk M2 ∧ FI (rS s) M M2 ∧ Wk M2 s ∧ Ct M2 s ∧ Tp M2 s P A
theorem s_wr77 {i : Nat} {Q : mM → Prop} (hm : m ≤ 40) (hi : i < m) (hV : Vk M s) (hG : GW M s) (hC : GB M s) (h24 : mI M s 24 = m) (hE : Enu M s m)
    (hQ : ∀ M', wrI M s (fun a j => a < i + 1 ∧ j ≤ m) (tA (rowp M s m) m 0) M' → h_MS_writeRows_2 G (d + 4) s ((i : Int) + 1) M' Q) :
    ∀ (r b : Nat) (M2 : mM), b + r = nb M s (rwc M s i) → wrI M s (fun a j => a < i + 1 ∧ j ≤ m) (wrA M s m i b) M2 → h_MS_writeRows_77 G (d + 4) s i (rwc M s i) (mI M (s + 25) (rwc M s i) + b) M2 Q := by
  obtain ⟨u1, u2, u3, u4⟩ := hE.1 i hi
  have u5 := hE.2.2.1 i hi
  have huu : (uu M s i : Int) = mI M (s + 39) i := by unfold uu; omega
  have hc := hG.cmd (i := uu M s i) (by omega)
  have hi' := u5.2
  unfold mny at hi'
  have hcx : (rwc M s i : Int) = mI M (s + 23) (uu M s i) + mI M (s + 35) (uu M s i) := by unfold rwc cx pl; omega
  have hc2 : (rwc M s i : Int) < mI M s 2 := by omega
  have hb := hG.brn hc2
  have h2 := hG.2.1
  have h3 := hG.2.2.1
  have h4 := hG.2.2.2.1
  have ht := hG.2.2.2.2.2.2.2.2.2.2
  have ebg : (bg M s (rwc M s i) : Int) = mI M (s + 25) (rwc M s i) := by unfold bg; omega
  have enb : (nb M s (rwc M s i) : Int) = mI M (s + 25) (rwc M s i + 1) - mI M (s + 25) (rwc M s i) := by unfold nb; omega
  have hm1 := (hC _ hc2).1
  have hbr := (hC _ hc2).2.1
  have hsml : ∀ b j, b ≤ nb M s (rwc M s i) → Sml (wrA M s m i b i j) := fun b j hb => wrA_sml hC hc2 hb
  have hend : ∀ a j, wrA M s m i (nb M s (rwc M s i)) a j = tA (rowp M s m) m 0 a j := fun a j => wrA_end hm
  have hwr : ∀ b a j, wrA M s m i b a j = if a = i then (if j = m then cwp M s (rwc M s i) b (isT M s) else (if i = j then 1 else 0) - cwp M s (rwc M s i) b (isU M s j)) else tA (rowp M s m) m 0 a j := fun b a j => rfl
  clear hi' u1 u2 u3 u4 u5 huu hc hcx
  generalize hcc : rwc M s i = c at *
  have htg : ∀ b, b < nb M s c → (tg M s (bg M s c + b) : Int) < mI M s 1 ∧ (tg M s (bg M s c + b) : Int) = mI M (s + 26) (bg M s c + b) := fun b hb => by
    have := ht (bg M s c + b) (by omega)
    unfold tg
    omega
  intro r
  induction r with
  | zero =>
    intro b M2 hr hw
    have f2 := hw.2.1
    have o2 := hw.1
    have V2 := hV.fi f2
    have G2 : sameG M M2 s := sameG.of f2 (by omega) (fun y _ _ => by omega)
    have eb : b = nb M s c := by omega
    subst eb
    refine k_MS_writeRows_77 o2 ⟨by omega, by omega⟩ ⟨by omega, by omega⟩ ⟨by omega, by omega⟩ ?_
    rw [V2.r7, V2.n25, G2.2.2.2 (s + 25) (by omega) (by omega), show ((c : Int) + 1).toNat = c + 1 by omega]
    exact ⟨V2.k0, V2.k25, by omega, fun _ => hQ M2 ⟨hw.1, hw.2.1, hw.2.2.1, hw.2.2.2.1, hw.2.2.2.2.congr (fun a j _ _ q => ⟨q, (hend a j).symm⟩)⟩, fun q => by omega⟩
  | succ r ih =>
    intro b M2 hr hw
    have hbn : b < nb M s c := by omega
    have hlast : ∀ M7, wrI M s (fun a j => a < i + 1 ∧ j ≤ m) (wrA M s m i (b + 1)) M7 → h_MS_writeRows_207 G (d + 4) s i c (mI M (s + 25) c + b) M7 Q := fun M7 w7 => by
      have a := ih (b + 1) M7 (by omega) w7
      rw [show mI M (s + 25) c + ((b + 1 : Nat) : Int) = mI M (s + 25) c + (b : Int) + 1 by omega] at a
      exact k_MS_writeRows_207 w7.1 ⟨by omega, by omega⟩ ⟨by omega, by omega⟩ ⟨by omega, by omega⟩ a
    obtain ⟨o2, f2, W2, T2, P2⟩ := hw
    have V2 := hV.fi f2
    have G2 : sameG M M2 s := sameG.of f2 (by omega) (fun y _ _ => by omega)
    have fe := f2.2.2.2.2.2.2
    obtain ⟨v0, v1, v2⟩ := hbr b hbn
    have v3 : mI M (s + 28) (bg M s c + b) ≤ mI M (s + 24) c := Int.le_of_dvd (by omega) v2
    have v4 : mI M (s + 27) (bg M s c + b) < 9000000000000 := by
      have q := (hsml 0 0 (by omega))
      have := (o2 (s + 27) (bg M s c + b)).1.2
      rw [fe (s + 27) (by omega)] at this
      omega
    have ebb : (mI M (s + 25) c + (b : Int)).toNat = bg M s c + b := by omega
    obtain ⟨t1, t2⟩ := htg b hbn
    have ett : (mI M (s + 26) (bg M s c + b)).toNat = tg M s (bg M s c + b) := rfl
    generalize htt : tg M s (bg M s c + b) = t at *
    have hch : (mI M (s + 27) (bg M s c + b) : Rat) * (mI M (s + 28) (bg M s c + b) : Rat)⁻¹ = chq M s (bg M s c + b) := rfl
    have hstep : ∀ f : Nat → Int, cwp M s c (b + 1) f = cwp M s c b f + chq M s (bg M s c + b) * (f t : Rat) := fun f => by rw [cwp_succ, htt]
    refine k_MS_writeRows_77 o2 ⟨by omega, by omega⟩ ⟨by omega, by omega⟩ ⟨by omega, by omega⟩ ?_
    rw [V2.r7, V2.r8, V2.r19, V2.r4, V2.r23, V2.n22, V2.n25, V2.n26, V2.n36, V2.n40, fe (s + 25) (by omega), fe (s + 26) (by omega), fe (s + 36) (by omega), fe (s + 22) (by omega), fe (s + 40) (by omega), fe s (by omega), h24, show ((c : Int) + 1).toNat = c + 1 by omega, ebb, ← t2, Int.toNat_natCast]
    refine ⟨V2.k0, V2.k25, by omega, fun q => by omega, fun _ => ⟨V2.k26, by omega, V2.k36, by omega, fun hin => ?_, fun hin => ⟨V2.k22, by omega, fun v hv => ⟨fun _ => ⟨V2.k40, by omega⟩, fun w hw => ?_⟩⟩⟩⟩
    · refine hlast M2 ⟨o2, f2, W2, T2, P2.congr (fun a j ha hj q => ⟨q, ?_⟩)⟩
      have e1 : isT M s t = 0 := if_neg (fun y => hE.2.2.2 t t1 y hin)
      have e2 : ∀ j, j < m → isU M s j t = 0 := fun j hj => if_neg (fun y => by
        have := (hE.1 j hj).2.2.1.1
        rw [← y] at this
        exact this hin)
      have z0 : ((0 : Int) : Rat) = 0 := rfl
      rw [hwr, hwr]
      by_cases qa : a = i
      · rw [if_pos qa, if_pos qa]
        by_cases qj : j = m
        · rw [if_pos qj, if_pos qj, hstep, e1, z0]; grind
        · rw [if_neg qj, if_neg qj, hstep, e2 j (by omega), z0]; grind
      · rw [if_neg qa, if_neg qa]
    · have hkey : ∃ j : Nat, w = j ∧ j ≤ m ∧ (∀ a l, a < i + 1 → l ≤ m → wrA M s m i (b + 1) a l = if a = i ∧ l = j then wrA M s m i b i j + (if v = 0 then - chq M s (bg M s c + b) else chq M s (bg M s c + b)) else wrA M s m i b a l) := by
        have z0 : ((0 : Int) : Rat) = 0 := rfl
        have z1 : ((1 : Int) : Rat) = 1 := rfl
        by_cases q3 : mI M (s + 22) t = 3
        · rw [if_pos q3] at hv
          rw [if_neg (by omega)] at hw
          refine ⟨m, hw, by omega, fun a l ha hl => ?_⟩
          have e1 : isT M s t = 1 := if_pos q3
          have e2 : ∀ j, j < m → isU M s j t = 0 := fun j hj => if_neg (fun y => by
            have := (hE.1 j hj).2.2.1.2
            rw [← y] at this
            exact this q3)
          rw [if_neg (show ¬ v = 0 by omega), hwr, hwr, hwr, if_pos rfl, if_pos rfl]
          by_cases qa : a = i
          · rw [if_pos qa]
            by_cases qj : l = m
            · rw [if_pos qj, if_pos ⟨qa, qj⟩, hstep, e1, z1]; grind
            · rw [if_neg qj, if_neg (show ¬ (a = i ∧ l = m) from fun y => qj y.2), if_pos qa, if_neg qj, hstep, e2 l (by omega), z0]; exact alg4
          · rw [if_neg qa, if_neg (fun y => qa y.1), if_neg qa]
        · rw [if_neg q3] at hv
          rw [if_pos hv] at hw
          obtain ⟨r1, r2, r3⟩ := hE.2.1 t t1 ⟨hin, q3⟩
          have e1 : isT M s t = 0 := if_neg q3
          have er : (mI M (s + 40) t).toNat < m ∧ ((mI M (s + 40) t).toNat : Int) = mI M (s + 40) t := by omega
          have euj : uu M s (mI M (s + 40) t).toNat = t := by unfold uu; omega
          refine ⟨(mI M (s + 40) t).toNat, by omega, by omega, fun a l ha hl => ?_⟩
          have e2 : ∀ j, j < m → isU M s j t = if j = (mI M (s + 40) t).toNat then 1 else 0 := fun j hj => by
            unfold isU
            by_cases y : j = (mI M (s + 40) t).toNat
            · rw [if_pos y, if_pos (by rw [y, euj])]
            · rw [if_neg y, if_neg (fun z => y (by
                have q := (hE.1 j hj).2.2.2
                rw [← z] at q
                omega))]
          rw [if_pos hv, hwr, hwr, hwr, if_pos rfl, if_neg (show ¬ (mI M (s + 40) t).toNat = m by omega)]
          by_cases qa : a = i
          · rw [if_pos qa]
            by_cases qj : l = m
            · rw [if_pos qj, if_neg (by omega), if_pos qa, if_pos qj, hstep, e1, z0]; grind
            · rw [if_neg qj, hstep, e2 l (by omega)]
              by_cases y : l = (mI M (s + 40) t).toNat
              · rw [if_pos y, if_pos (show a = i ∧ l = (mI M (s + 40) t).toNat from ⟨qa, y⟩), z1, ← y]; exact alg3
              · rw [if_neg y, if_neg (show ¬ (a = i ∧ l = (mI M (s + 40) t).toNat) from fun z => y z.2), if_pos qa, if_neg qj, z0]; exact alg4
          · rw [if_neg qa, if_neg (fun y => qa y.1), if_neg qa]
      obtain ⟨j, ew, hj, hA⟩ := hkey
      have hv01 : v = 0 ∨ v = 1 := by split at hv <;> omega
      clear hin hv hw
      subst ew
      refine (s_MS_cell (by omega) (by omega) o2 V2).mono (fun x M3 h3' => ?_)
      obtain ⟨e3, hx⟩ := h3'
      subst e3 hx
      rw [V2.r9, V2.r10, V2.r26, V2.n27, V2.n28, fe (s + 27) (by omega), fe (s + 28) (by omega)]
      refine ⟨o2, V2.k0, V2.k27, by omega, V2.k28, by omega, W2.2.1.1.1, (s_MF_set ⟨by omega, by omega⟩ (by omega) ⟨by omega, by omega⟩ (by omega) o2 W2.2.1 (by omega)).mono (fun M4 h4' => ?_)⟩
      obtain ⟨o4, f4, F4, y1, y2, -⟩ := h4'
      have f4' : FI (fun y => s + 42 ≤ y ∧ y ≤ s + 46) M3 M4 := f4.mono (fun y q => by have : s + 42 ≤ y ∧ y ≤ s + 42 + 4 := q; omega)
      have V4 := V2.fi f4
      have W4 : Wk M4 s := W2.put f4 F4.ft (by omega)
      have T4 := T2.out f4' (fun y q => by omega)
      have P4 := P2.out f4' (fun y q => by omega)
      have c4 := P4 i j (by omega) (by omega) ⟨by omega, hj⟩
      have z1 := F4.2.1.1.2.2.2.2.2.2
      have z2 := F4.2.2.1.1.2.2.2.2.2.2
      have z3 := c4.1.2.1.1.2.2.2.2.2.2
      have z4 := c4.1.2.2.1.1.2.2.2.2.2.2
      refine ⟨o4, V4.k0, fun x84 h84 => ?_⟩
      have h84' : x84 = 0 ∨ x84 = 1 := by split at h84 <;> omega
      rw [V4.r0, V4.r26]
      refine ⟨W4.1.1.1, (s_MU_add (d := d) h84' o4 W4.1 c4.1 F4 (by unfold suO cel; omega) (by unfold suO; omega) (by omega) (by omega) (by omega)).mono (fun M5 h5 => ?_)⟩
      have v5 := fv_add h84' c4.1 F4 h5
      rw [c4.2.2, fv_set y1 y2, hch] at v5
      have v6 : fv M5 (s + 1 + 1) = wrA M s m i (b + 1) i j := by
        rw [v5, hA i j (by omega) hj, if_pos (show i = i ∧ j = j from ⟨rfl, rfl⟩)]
        rcases hv01 with q | q
        · rw [if_pos q] at h84
          rw [if_pos h84, if_pos q]
          exact Rat.sub_eq_add_neg ..
        · rw [if_neg (by omega)] at h84
          rw [if_neg (show ¬ x84 = 1 by omega), if_neg (show ¬ v = 0 by omega)]
      obtain ⟨o5, f5, Z5, F5, C5, -⟩ := h5
      have f5' : FI (fun y => s + 2 ≤ y ∧ y ≤ s + 21) M4 M5 := f5.mono (fun y q => by omega)
      have V5 := V4.fi f5
      have W5 : Wk M5 s := W4.out f5' Z5 (fun y q => by omega)
      have T5 := T4.out f5' (fun y q => by omega)
      have P5 := P4.out f5' (fun y q => by omega)
      have hsm := sml_size F5 C5 (by rw [v6]; exact hsml (b + 1) j (by omega))
      have c5 := P5 i j (by omega) (by omega) ⟨by omega, hj⟩
      rw [V5.r0, Z5.1.2.1]
      refine ⟨o5, V5.k0, Z5.1.1, c5.1.1.1, (s_MF_copy o5 c5.1.ft F5 (by unfold cel; omega) hsm.1 hsm.2).mono (fun M6 h6 => ?_)⟩
      obtain ⟨o6, f6, F6, w4, w5, w6⟩ := h6
      have C6 := fc_copy C5 w4 w5 w6
      have f6' : FI (fun y => s + 12868 ≤ y ∧ y ≤ s + 21067) M5 M6 := f6.mono (fun x q => by have q' : cel s i j ≤ x ∧ x ≤ cel s i j + 4 := q; unfold cel at q'; omega)
      have P6 := P5.put (Q := fun a j => a < i + 1 ∧ j ≤ m) (B := wrA M s m i (b + 1)) (by omega) (by omega) f6 F6 C6.1 (C6.2.trans v6) (fun a l q => by
        by_cases z : a = i ∧ l = j
        · exact Or.inl z
        · exact Or.inr ⟨q, by rw [hA a l q.1 q.2, if_neg z]⟩)
      exact ⟨o6, hlast M6 ⟨o6, ((f2.trans (f4'.mono (fun y q => by omega))).trans (f5'.mono (fun y q => by omega))).trans (f6'.mono (fun y q => by omega)), W5.far f6' (fun y q => by omega), T5.put (by omega) (by omega) f6 F6.ft, P6⟩⟩
theorem s_MS_writeRows (hm : m ≤ 40) (hO : mOk M) (hV : Vk M s) (hG : GW M s) (hC : GB M s) (h24 : mI M s 24 = m) (hE : Enu M s m) (hW : Wk M s) (hT : Ct M s) :
    Cv G y_MS_writeRows (d + 5) [vr s] M (fun M' => mOk M' ∧ FI (rS s) M M' ∧ Wk M' s ∧ Ct M' s ∧ Tb M' s m (tA (rowp M s m) m 0)) := by
  refine k_MS_writeRows hO ?_
  suffices H : ∀ (n i : Nat) (M2 : mM), i + n = m → wrI M s (fun a j => a < i ∧ j ≤ m) (tA (rowp M s m) m 0) M2 → h_MS_writeRows_2 G (d + 4) s i M2 (fun M' => mOk M' ∧ FI (rS s) M M' ∧ Wk M' s ∧ Ct M' s ∧ Tb M' s m (tA (rowp M s m) m 0)) from
    H m 0 M (by omega) ⟨hO, FI.refl, hW, hT, fun i j _ _ q => by omega⟩
  intro n
  induction n with
  | zero =>
    intro i M2 hn hw
    have ei : i = m := by omega
    subst ei
    have fe := hw.2.1.2.2.2.2.2.2
    refine k_MS_writeRows_2 hw.1 ⟨by omega, by omega⟩ ?_
    rw [fe s (by omega), h24]
    exact ⟨(hV.fi hw.2.1).k0, fun _ => ⟨hw.1, hw.2.1, hw.2.2.1, hw.2.2.2.1, fun a j ha hj => hw.2.2.2.2 a j (by omega) (by omega) ⟨ha, hj⟩⟩, fun q => by omega⟩
  | succ n ih =>
    intro i M2 hn hw
    have hi : i < m := by omega
    have fe := hw.2.1.2.2.2.2.2.2
    refine k_MS_writeRows_2 hw.1 ⟨by omega, by omega⟩ ?_
    rw [fe s (by omega), h24]
    refine ⟨(hV.fi hw.2.1).k0, fun q => by omega, fun _ => ?_⟩
    have h77 := s_wr77 (G := G) (d := d) hm hi hV hG hC h24 hE (fun M' w => ih (i + 1) M' (by omega) w)
    suffices H : ∀ (t l : Nat) (M3 : mM), l + t = m + 1 → wrI M s (fun a j => (a < i ∧ j ≤ m) ∨ (a = i ∧ j < l)) (wrA M s m i 0) M3 → h_MS_writeRows_12 G (d + 4) s i l M3 (fun M' => mOk M' ∧ FI (rS s) M M' ∧ Wk M' s ∧ Ct M' s ∧ Tb M' s m (tA (rowp M s m) m 0)) from
      H (m + 1) 0 M2 (by omega) ⟨hw.1, hw.2.1, hw.2.2.1, hw.2.2.2.1, hw.2.2.2.2.congr (fun a j ha hj q => ⟨by omega, by
        unfold wrA
        rw [if_neg (by omega)]⟩)⟩
    clear hw fe M2
    obtain ⟨u1, u2, u3, u4⟩ := hE.1 i hi
    have u5 := hE.2.2.1 i hi
    have huu : (uu M s i : Int) = mI M (s + 39) i := by unfold uu; omega
    have hc := hG.cmd (i := uu M s i) (by omega)
    have hi' := u5.2
    unfold mny at hi'
    have hcx : (rwc M s i : Int) = mI M (s + 23) (uu M s i) + mI M (s + 35) (uu M s i) := by unfold rwc cx pl; omega
    have hc2 : (rwc M s i : Int) < mI M s 2 := by omega
    have h2 := hG.2.1
    have h3 := hG.2.2.1
    intro t
    induction t with
    | zero =>
      intro l M3 hl hw
      have fe := hw.2.1.2.2.2.2.2.2
      have V3 := hV.fi hw.2.1
      have el : l = m + 1 := by omega
      subst el
      refine k_MS_writeRows_12 hw.1 ⟨by omega, by omega⟩ ⟨by omega, by omega⟩ ?_
      rw [V3.r22, V3.r5, V3.r18, V3.r7, V3.n39, V3.n23, V3.n35, V3.n25, fe s (by omega), h24, fe (s + 39) (by omega), fe (s + 23) (by omega), fe (s + 35) (by omega), fe (s + 25) (by omega), Int.toNat_natCast]
      have ef : (mI M (s + 39) i).toNat = uu M s i := rfl
      rw [ef, ← hcx, Int.toNat_natCast]
      refine ⟨V3.k0, fun _ => ⟨V3.k39, by omega, V3.k23, by omega, by omega, V3.k35, by omega, V3.k25, by omega, ?_⟩, fun q => by omega⟩
      have a := h77 (nb M s (rwc M s i)) 0 M3 (by omega) ⟨hw.1, hw.2.1, hw.2.2.1, hw.2.2.2.1, hw.2.2.2.2.congr (fun a j ha hj q => ⟨by omega, rfl⟩)⟩
      rw [show mI M (s + 25) (rwc M s i) + ((0 : Nat) : Int) = mI M (s + 25) (rwc M s i) by omega] at a
      exact a
    | succ t iht =>
      intro l M3 hl hw
      obtain ⟨o3, f3, W3, T3, P3⟩ := hw
      have fe := f3.2.2.2.2.2.2
      have V3 := hV.fi f3
      refine k_MS_writeRows_12 o3 ⟨by omega, by omega⟩ ⟨by omega, by omega⟩ ?_
      rw [fe s (by omega), h24]
      refine ⟨V3.k0, fun q => by omega, fun _ => (s_MS_cell (by omega) (by omega) o3 V3).mono (fun x M4 h4 => ?_)⟩
      obtain ⟨e4, hx⟩ := h4
      subst e4 hx
      have cf := T3 i l (by omega) (by omega)
      refine ⟨o3, fun v hv => ⟨cf.1.1, (s_MF_set ⟨by split at hv <;> omega, by split at hv <;> omega⟩ (by split at hv <;> omega) ⟨by omega, by omega⟩ (by omega) o3 cf (by omega)).mono (fun M5 h5 => ?_)⟩⟩
      obtain ⟨o5, f5, F5, y1, y2, y3⟩ := h5
      have C5 := fc_one F5 y2 (fun q => y3 (by omega))
      have e5 : fv M5 (cel s i l) = wrA M s m i 0 i l := by
        rw [fv_set y1 y2]
        unfold wrA
        rw [if_pos rfl]
        have z0 : ((0 : Int) : Rat) = 0 := rfl
        have z1 : ((1 : Int) : Rat) = 1 := rfl
        have c0 : ∀ f, cwp M s (rwc M s i) 0 f = 0 := fun f => rfl
        rw [c0, c0, z1]
        by_cases q : l = m
        · rw [if_pos q]
          rw [if_neg (by omega)] at hv
          rw [hv, z0]; grind
        · rw [if_neg q]
          by_cases z : i = l
          · rw [if_pos z]
            rw [if_pos (by omega)] at hv
            rw [hv, z1]; grind
          · rw [if_neg z]
            rw [if_neg (by omega)] at hv
            rw [hv, z0]; grind
      have f5' : FI (fun y => s + 12868 ≤ y ∧ y ≤ s + 21067) M4 M5 := f5.mono (fun x q => by have q' : cel s i l ≤ x ∧ x ≤ cel s i l + 4 := q; unfold cel at q'; omega)
      have P5 := P3.put (Q := fun a j => (a < i ∧ j ≤ m) ∨ (a = i ∧ j < l + 1)) (B := wrA M s m i 0) (by omega) (by omega) f5 F5 C5 e5 (fun a j q => by
        by_cases z : a = i ∧ j = l
        · exact Or.inl z
        · exact Or.inr ⟨by omega, rfl⟩)
      exact ⟨o5, iht (l + 1) M5 (by omega) ⟨o5, f3.trans (f5'.mono (fun y q => by omega)), W3.far f5' (fun y q => by omega), T3.put (by omega) (by omega) f5 F5.ft, P5⟩⟩
end VS
end
section
/-! The equations that are written down have one small answer. -/
theorem cw_sr {M : mM} {s c : Nat} {f : Nat → Nat → Rat} : ∀ (n : Nat), sr (fun j => cw M s c (f j)) n = cw M s c (fun k => sr (fun j => f j k) n)
  | 0 => by
    show (0 : Rat) = cw M s c (fun _ => 0)
    have e := cw_mul (M := M) (s := s) (c := c) (x := 0) (f := fun _ => 0)
    have e1 : cw M s c (fun _ => 0) = cw M s c (fun _ => 0 * 0) := cw_congr (fun b hb => by grind)
    rw [e1, e]
    grind
  | n + 1 => by
    rw [sr, cw_sr n, ← cw_add]
    rfl
theorem pr_pow {f w : Nat → Int} : ∀ (k : Nat), (∀ r, r < k → 0 ≤ f r ∧ f r ≤ 2 ^ (w r).toNat ∧ 0 ≤ w r) → pr f k ≤ 2 ^ (sm w k).toNat ∧ 0 ≤ pr f k ∧ 0 ≤ sm w k
  | 0, _ => ⟨by show (1 : Int) ≤ 2 ^ (0 : Int).toNat; decide, by show (0 : Int) ≤ 1; decide, by show (0 : Int) ≤ 0; decide⟩
  | k + 1, h => by
    obtain ⟨a, b, c⟩ := pr_pow k (fun r hr => h r (by omega))
    obtain ⟨h1, h2, h3⟩ := h k (by omega)
    rw [pr, sm]
    refine ⟨?_, Int.mul_nonneg b h1, by omega⟩
    rw [show (sm w k + w k).toNat = (sm w k).toNat + (w k).toNat by omega, Int.pow_add]
    exact Int.mul_le_mul a h2 h1 (Int.pow_nonneg (by omega))
theorem sm_part {f : Nat → Int} {a : Nat} : ∀ (n : Nat), (∀ c, c < a + n → 0 ≤ f c) → sm f a ≤ sm f (a + n)
  | 0, _ => Int.le_refl _
  | n + 1, h => by
    have h1 := sm_part (f := f) (a := a) n (fun c hc => h c (by omega))
    have h2 := h (a + n) (by omega)
    have e : sm f (a + (n + 1)) = sm f (a + n) + f (a + n) := rfl
    omega
theorem two_pow_le {a b : Nat} (h : a ≤ b) : (2 : Int) ^ a ≤ 2 ^ b := by
  obtain ⟨c, rfl⟩ := Nat.le.dest h
  rw [Int.pow_add]
  have h1 : (0 : Int) < 2 ^ a := Int.pow_pos (by omega)
  have h2 : (0 : Int) < 2 ^ c := Int.pow_pos (by omega)
  have := Int.mul_le_mul_of_nonneg_left (a := 1) (b := 2 ^ c) (c := 2 ^ a) (by omega) (by omega)
  omega
theorem ic_mono {x y : Int} (h : x ≤ y) : (x : Rat) ≤ (y : Rat) := by exact_mod_cast h
theorem p480 : (2 : Int) ^ 480 < 16777216 ^ 21 := by decide
theorem p510 : (1000000000 : Int) * 2 ^ 480 < 16777216 ^ 56 := by decide
/-- a state's row, as a function of states -/
def eU (M : mM) (s : Nat) (g : Nat → Rat) : Nat → Rat := fun k => if mI M (s + 36) k ≠ 0 ∧ mI M (s + 22) k ≠ 3 then g (mI M (s + 40) k).toNat else 0
def rowD (M : mM) (s : Nat) : Nat → Int := fun r => mI M (s + 24) (rwc M s r)
def rowN (M : mM) (s m : Nat) : Nat → Nat → Int := fun r c => sm (fun b => mI M (s + 27) (bg M s (rwc M s r) + b) * (mI M (s + 24) (rwc M s r) / mI M (s + 28) (bg M s (rwc M s r) + b)) * (if c = m then isT M s else isU M s c) (tg M s (bg M s (rwc M s r) + b))) (nb M s (rwc M s r))
/-- each row's command may lead nearer to the end -/
def Lds (M : mM) (s m : Nat) (ρ : Nat → Nat) : Prop := ∀ r, r < m → ∃ b, b < nb M s (rwc M s r) ∧ mI M (s + 36) (tg M s (bg M s (rwc M s r) + b)) ≠ 0 ∧ ρ (tg M s (bg M s (rwc M s r) + b)) < ρ (uu M s r)
section SY
variable {M : mM} {s m : Nat}
theorem Enu.pick (hE : Enu M s m) {k : Nat} (hk : (k : Int) < mI M s 1) (g : Nat → Rat) : sr (fun j => (isU M s j k : Rat) * g j) m = eU M s g k := by
  have z0 : ((0 : Int) : Rat) = 0 := rfl
  have z1 : ((1 : Int) : Rat) = 1 := rfl
  unfold eU
  by_cases q : mI M (s + 36) k ≠ 0 ∧ mI M (s + 22) k ≠ 3
  · rw [if_pos q]
    obtain ⟨r1, r2, r3⟩ := hE.2.1 k hk q
    rw [sr_congr (g := fun j => if (mI M (s + 40) k).toNat = j then 1 * g j else 0) m (fun j hj => ?_), sr_pick, if_pos (by omega)]
    · grind
    · unfold isU
      by_cases y : (mI M (s + 40) k).toNat = j
      · rw [if_pos y, if_pos (by unfold uu; rw [← y]; omega), z1]
      · rw [if_neg y, if_neg (fun z => y (by
          have w := (hE.1 j hj).2.2.2
          rw [← z] at w
          omega)), z0]
        grind
  · rw [if_neg q]
    rw [sr_congr (g := fun j => 0 * (fun _ => 0) j) m (fun j hj => ?_), sr_mul]
    · grind
    · unfold isU
      rw [if_neg (fun z => q (by
        have w := (hE.1 j hj).2.2.1
        rw [← z] at w
        exact w)), z0]
      grind
theorem Enu.cmd (hE : Enu M s m) (hG : GW M s) {i : Nat} (hi : i < m) : (uu M s i : Int) < mI M s 1 ∧ (rwc M s i : Int) < mI M s 2 ∧ (pl M s (uu M s i) : Int) < mny M s (uu M s i) ∧ (pl M s (uu M s i) : Int) = mI M (s + 35) (uu M s i) := by
  obtain ⟨u1, u2, u3, u4⟩ := hE.1 i hi
  have u5 := hE.2.2.1 i hi
  have huu : (uu M s i : Int) = mI M (s + 39) i := by unfold uu; omega
  have hc := hG.cmd (i := uu M s i) (by omega)
  have hi' := u5.2
  unfold mny at hi' ⊢
  have hcx : (rwc M s i : Int) = mI M (s + 23) (uu M s i) + mI M (s + 35) (uu M s i) := by unfold rwc cx pl; omega
  unfold pl
  omega
theorem tg_lt (hG : GW M s) {c b : Nat} (hc : (c : Int) < mI M s 2) (hb : b < nb M s c) : (tg M s (bg M s c + b) : Int) < mI M s 1 := by
  have h := hG.brn hc
  have ht := hG.2.2.2.2.2.2.2.2.2.2 (bg M s c + b) (by unfold bg nb at *; omega)
  unfold tg
  omega
/-- a row, as a sum over branches -/
theorem rowp_sum (hE : Enu M s m) (hG : GW M s) {i : Nat} (hi : i < m) (g : Nat → Rat) : sr (fun j => rowp M s m i j * g j) m = cw M s (rwc M s i) (eU M s g) := by
  have hc := (hE.cmd hG hi).2.1
  rw [sr_congr (g := fun j => cw M s (rwc M s i) (fun k => (isU M s j k : Rat) * g j)) m (fun j hj => ?_), cw_sr]
  · refine cw_congr (fun b hb => ?_)
    exact hE.pick (tg_lt hG hc hb) g
  · unfold rowp
    rw [if_neg (by omega), Rat.mul_comm, ← cw_mul]
    exact cw_congr (fun b hb => by grind)
theorem rowp_m {i : Nat} : rowp M s m i m = cw M s (rwc M s i) (fun k => (isT M s k : Rat)) := by
  unfold rowp
  rw [if_pos rfl]
theorem rowp_nn (hE : Enu M s m) (hG : GW M s) (hC : GB M s) {i j : Nat} (hi : i < m) : 0 ≤ rowp M s m i j := by
  have hc := (hE.cmd hG hi).2.1
  unfold rowp cw
  refine sr_nonneg _ (fun b hb => Rat.mul_nonneg (Rat.le_of_lt (hC.chq_pos hc hb)) ?_)
  by_cases q : j = m
  · rw [if_pos q]
    show (0 : Rat) ≤ ((isT M s (tg M s (bg M s (rwc M s i) + b)) : Int) : Rat)
    rcases isT_01 (M := M) (s := s) (k := tg M s (bg M s (rwc M s i) + b)) with w | w <;> rw [w] <;> decide
  · rw [if_neg q]
    show (0 : Rat) ≤ ((isU M s j (tg M s (bg M s (rwc M s i) + b)) : Int) : Rat)
    rcases isU_01 (M := M) (s := s) (j := j) (k := tg M s (bg M s (rwc M s i) + b)) with w | w <;> rw [w] <;> decide
theorem rowp_le (hE : Enu M s m) (hG : GW M s) (hC : GB M s) {i : Nat} (hi : i < m) : sr (rowp M s m i) (m + 1) ≤ 1 := by
  have hc := (hE.cmd hG hi).2.1
  have e1 : sr (rowp M s m i) m = cw M s (rwc M s i) (eU M s (fun _ => 1)) := by
    rw [← rowp_sum hE hG hi]
    exact sr_congr m (fun j hj => by grind)
  rw [sr, e1, rowp_m, ← cw_add]
  have a := cw_le hC hc (f := fun k => eU M s (fun _ => 1) k + (isT M s k : Rat)) (g := fun _ => 1) (fun b hb => by
    unfold eU isT
    by_cases q : mI M (s + 22) (tg M s (bg M s (rwc M s i) + b)) = 3
    · rw [if_neg (fun w => w.2 q), if_pos q, show ((1 : Int) : Rat) = 1 from rfl]; grind
    · rw [if_neg q, show ((0 : Int) : Rat) = 0 from rfl]
      split
      · show (1 : Rat) + 0 ≤ 1; grind
      · grind)
  rw [cw_one hC hc] at a
  exact a
theorem chq_ge (hC : GB M s) {c b : Nat} (hc : (c : Int) < mI M s 2) (hb : b < nb M s c) : ((1000000000 : Int) : Rat)⁻¹ ≤ chq M s (bg M s c + b) := by
  obtain ⟨u0, u1, u2⟩ := (hC c hc).2.1 b hb
  have h1 := (hC c hc).1
  have u3 : mI M (s + 28) (bg M s c + b) ≤ mI M (s + 24) c := Int.le_of_dvd (by omega) u2
  unfold chq
  have p1 : (0 : Rat) < (mI M (s + 28) (bg M s c + b) : Rat) := Rat.intCast_pos.2 u1
  have q1 := Rat.mul_inv_cancel _ (ic_ne u1)
  have q2 := Rat.mul_inv_cancel _ (ic_ne (x := 1000000000) (by omega))
  have i1 : (0 : Rat) < (mI M (s + 28) (bg M s c + b) : Rat)⁻¹ := Rat.inv_pos.2 p1
  have i2 : (0 : Rat) < ((1000000000 : Int) : Rat)⁻¹ := Rat.inv_pos.2 (Rat.intCast_pos.2 (by omega))
  have k1 : (1 : Rat) ≤ (mI M (s + 27) (bg M s c + b) : Rat) := by
    have : ((1 : Int) : Rat) ≤ (mI M (s + 27) (bg M s c + b) : Rat) := ic_mono (by omega)
    exact this
  have k2 : (mI M (s + 28) (bg M s c + b) : Rat) ≤ ((1000000000 : Int) : Rat) := ic_mono (by omega)
  generalize ((1000000000 : Int) : Rat) = Z at *
  generalize (mI M (s + 28) (bg M s c + b) : Rat) = v at *
  generalize (mI M (s + 27) (bg M s c + b) : Rat) = y at *
  have a := Rat.mul_nonneg (a := (Z - v) * Z⁻¹) (b := v⁻¹) (Rat.mul_nonneg (by grind) (Rat.le_of_lt i2)) (Rat.le_of_lt i1)
  have b := Rat.mul_nonneg (a := y - 1) (b := v⁻¹) (by grind) (Rat.le_of_lt i1)
  generalize Z⁻¹ = z at *
  generalize v⁻¹ = w at *
  have e : (Z - v) * z * w = (Z * z) * w - (v * w) * z := by grind
  rw [q1, q2] at e
  grind
theorem rowp_sy {ρ : Nat → Nat} {w : Nat → Int} (hE : Enu M s m) (hG : GW M s) (hC : GB M s) (hL : Lds M s m ρ) (hw : ∀ r, r < m → 0 ≤ w r ∧ 2 * rowD M s r ≤ 2 ^ (w r).toNat) (hw2 : sm w m ≤ 480) : Sy m (rowp M s m) (rowN M s m) (rowD M s) := by
  have hint : ∀ r c, r < m → c ≤ m → (rowD M s r : Rat) * rowp M s m r c = (rowN M s m r c : Rat) := fun r c hr _ => by
    have hc := (hE.cmd hG hr).2.1
    unfold rowD rowp rowN
    exact cw_int hC hc
  have hD1 : ∀ r, r < m → 1 ≤ rowD M s r ∧ rowD M s r < 1000000000 := fun r hr => by
    have h := (hC _ (hE.cmd hG hr).2.1).1
    unfold rowD
    omega
  obtain ⟨h, g⟩ : ∃ h, gok m 0 (rowp M s m) h := by
    have hu : (0 : Rat) < ((1000000000 : Int) : Rat)⁻¹ := Rat.inv_pos.2 (Rat.intCast_pos.2 (by omega))
    have hu1 : ((1000000000 : Int) : Rat)⁻¹ ≤ 1 := by
      have q2 := Rat.mul_inv_cancel _ (ic_ne (x := 1000000000) (by omega))
      have k : (1 : Rat) ≤ ((1000000000 : Int) : Rat) := by decide
      generalize ((1000000000 : Int) : Rat) = Z at *
      have a := Rat.mul_nonneg (a := Z - 1) (b := Z⁻¹) (by grind) (Rat.le_of_lt hu)
      grind
    refine cert (ρ := fun r => ρ (uu M s r)) hu hu1 (fun i j hi hj => rowp_nn hE hG hC hi) (fun i hi => rowp_le hE hG hC hi) (fun i hi => ?_)
    obtain ⟨b, hb, hb1, hb2⟩ := hL i hi
    have hc := (hE.cmd hG hi).2.1
    have hge := chq_ge hC hc hb
    have htl := tg_lt hG hc hb
    have hone : ∀ f : Nat → Int, (∀ k, f k = 0 ∨ f k = 1) → f (tg M s (bg M s (rwc M s i) + b)) = 1 → ((1000000000 : Int) : Rat)⁻¹ ≤ cw M s (rwc M s i) (fun k => (f k : Rat)) := fun f hf h1 => by
      have a := sr_one (f := fun b => chq M s (bg M s (rwc M s i) + b) * (f (tg M s (bg M s (rwc M s i) + b)) : Rat)) (nb M s (rwc M s i)) hb (fun j hj => Rat.mul_nonneg (Rat.le_of_lt (hC.chq_pos hc hj)) (by
        rcases hf (tg M s (bg M s (rwc M s i) + j)) with q | q <;> rw [q] <;> decide))
      have a1 : chq M s (bg M s (rwc M s i) + b) * (f (tg M s (bg M s (rwc M s i) + b)) : Rat) ≤ cw M s (rwc M s i) (fun k => (f k : Rat)) := a
      rw [h1] at a1
      have z1 : ((1 : Int) : Rat) = 1 := rfl
      rw [z1] at a1
      grind
    by_cases q : mI M (s + 22) (tg M s (bg M s (rwc M s i) + b)) = 3
    · left
      have a := hone (isT M s) (fun k => isT_01) (if_pos q)
      rw [← rowp_m (m := m)] at a
      have b := rowp_le hE hG hC hi
      rw [sr] at b
      grind
    · right
      obtain ⟨r1, r2, r3⟩ := hE.2.1 _ htl ⟨hb1, q⟩
      have euj : uu M s (mI M (s + 40) (tg M s (bg M s (rwc M s i) + b))).toNat = tg M s (bg M s (rwc M s i) + b) := by unfold uu; omega
      refine ⟨(mI M (s + 40) (tg M s (bg M s (rwc M s i) + b))).toNat, by omega, by rw [euj]; exact hb2, ?_⟩
      have a := hone (isU M s (mI M (s + 40) (tg M s (bg M s (rwc M s i) + b))).toNat) (fun k => isU_01) (if_pos euj.symm)
      unfold rowp
      rw [if_neg (by omega)]
      exact a
  refine ⟨⟨h, g⟩, hint, fun r hr => by have := hD1 r hr; omega, fun i k hi hk => ?_⟩
  have hp := det_pos g hint (fun r hr => by have := hD1 r hr; omega) k hk
  have hN : ∀ r c, r < m → c ≤ m → 0 ≤ rowN M s m r c := fun r c hr hc => by
    have a : (0 : Rat) ≤ (rowN M s m r c : Rat) := by
      rw [← hint r c hr hc]
      exact Rat.mul_nonneg (Rat.le_of_lt (Rat.intCast_pos.2 (by have := hD1 r hr; omega))) (rowp_nn hE hG hC hr)
    exact ic_le (by have : ((0 : Int) : Rat) = 0 := rfl; rw [this]; exact a)
  have hs := det_small (k := k) (N := rowN M s m) (D := rowD M s) (fun r c hr hc => hN r c (by omega) (by omega)) (fun r hr => by
    refine ⟨by have := hD1 r (by omega); omega, ?_⟩
    refine ic_le ?_
    have e1 : ((sm (fun c => rowN M s m r c) k : Int) : Rat) = (rowD M s r : Rat) * sr (rowp M s m r) k := by
      rw [sm_cast, ← sr_mul]
      exact sr_congr k (fun c hc => (hint r c (by omega) (by omega)).symm)
    rw [e1]
    have a := rowp_le hE hG hC (i := r) (by omega)
    have b := sr_part (f := rowp M s m r) (a := k) (m + 1 - k) (fun c hc => rowp_nn hE hG hC (by omega))
    rw [show k + (m + 1 - k) = m + 1 by omega] at b
    have c := Rat.mul_nonneg (a := (rowD M s r : Rat)) (b := 1 - sr (rowp M s m r) k) (Rat.le_of_lt (Rat.intCast_pos.2 (by have := hD1 r (by omega); omega))) (by grind)
    grind)
  have hpw := pr_pow (f := fun r => 2 * rowD M s r) (w := w) k (fun r hr => ⟨by have := hD1 r (by omega); omega, (hw r (by omega)).2, (hw r (by omega)).1⟩)
  have hsp := sm_part (f := w) (a := k) (m - k) (fun c hc => (hw c (by omega)).1)
  rw [show k + (m - k) = m by omega] at hsp
  have h480 : (2 : Int) ^ (sm w k).toNat ≤ 2 ^ 480 := two_pow_le (by omega)
  have hdi := hD1 i hi
  have hfin : rowD M s i * det k (bm (rowN M s m) (rowD M s)) ≤ 1000000000 * 2 ^ 480 := Int.mul_le_mul (by omega) (by omega) (by omega) (by omega)
  have := p510
  have := p480
  exact ⟨by omega, by omega⟩
end SY
end
section
/-! The solver: settle. -/
/-- 512 fractions have room -/
def Rm (M : mM) (s e : Nat) : Prop := ∀ i, i < 512 → Ft M (s + e + 25 * i) 56
abbrev eS (s e : Nat) : Nat → Prop := fun x => s + e ≤ x ∧ x < s + e + 12800 ∧ (x - (s + e)) % 25 ≤ 4
theorem Rm.out {S : Nat → Prop} {M M' : mM} {s e : Nat} (h : Rm M s e) (k : FI S M M') (hs : ∀ y, S y → y < s + e ∨ s + e + 12780 ≤ y) : Rm M' s e :=
  fun i hi => (h i hi).out k (fun y q => by have := hs y q; omega)
theorem Rm.put {M M' : mM} {s e i : Nat} (h : Rm M s e) (hi : i < 512) (k : FI (fS (s + e + 25 * i)) M M') (h1 : Ft M' (s + e + 25 * i) 56) : Rm M' s e := by
  intro j hj
  by_cases q : j = i
  · rw [q]; exact h1
  · exact (h j hj).out k (fun y w => by have w' : s + e + 25 * i ≤ y ∧ y ≤ s + e + 25 * i + 4 := w; omega)
theorem Xt.put {M M' : mM} {s e n i n' : Nat} {x x' : Nat → Rat} (h : Xt M s e n x) (k : FI (fS (s + e + 25 * i)) M M') (h1 : Fq M' (s + e + 25 * i) 56) (h2 : Fc M' (s + e + 25 * i)) (h3 : fv M' (s + e + 25 * i) = x' i) (hq : ∀ j, j < n' → j = i ∨ (j < n ∧ x' j = x j)) : Xt M' s e n' x' := by
  intro j hj
  by_cases q : j = i
  · rw [q]; exact ⟨h1, h2, h3⟩
  · have w : j < n ∧ x' j = x j := by
      rcases hq j hj with w | w
      · exact absurd w q
      · exact w
    obtain ⟨g1, g2, g3⟩ := h j w.1
    have hs' : ∀ y, fS (s + e + 25 * i) y → y < s + e + 25 * j ∨ s + e + 25 * j + 4 < y := fun y z => by have z' : s + e + 25 * i ≤ y ∧ y ≤ s + e + 25 * i + 4 := z; omega
    exact ⟨(g1.out k hs').1, g2.out g1 k hs', by rw [fv_out g1 k hs', g3, w.2]⟩
theorem Xt.congr {M : mM} {s e n : Nat} {x x' : Nat → Rat} (h : Xt M s e n x) (hq : ∀ j, j < n → x' j = x j) : Xt M s e n x' := fun j hj => by
  obtain ⟨g1, g2, g3⟩ := h j hj
  exact ⟨g1, g2, g3.trans (hq j hj).symm⟩
/-- the values -/
def valx (M : mM) (s m : Nat) : Nat → Rat := fun k => if mI M (s + 36) k ≠ 0 ∧ mI M (s + 22) k ≠ 3 then gq (rowp M s m) m (mI M (s + 40) k).toNat m else if mI M (s + 22) k = 3 then 1 else 0
/-- the values while they are copied -/
def valr (M : mM) (s m r : Nat) : Nat → Rat := fun k => if (mI M (s + 36) k ≠ 0 ∧ mI M (s + 22) k ≠ 3) ∧ (mI M (s + 40) k).toNat < r then gq (rowp M s m) m (mI M (s + 40) k).toNat m else if mI M (s + 22) k = 3 then 1 else 0
theorem valx_y {M : mM} {s m k : Nat} (h : mI M (s + 36) k ≠ 0 ∧ mI M (s + 22) k ≠ 3) : valx M s m k = gq (rowp M s m) m (mI M (s + 40) k).toNat m := if_pos h
theorem valx_n {M : mM} {s m k : Nat} (h : ¬ (mI M (s + 36) k ≠ 0 ∧ mI M (s + 22) k ≠ 3)) : valx M s m k = if mI M (s + 22) k = 3 then 1 else 0 := if_neg h
theorem valr_y {M : mM} {s m k r : Nat} (h : mI M (s + 36) k ≠ 0 ∧ mI M (s + 22) k ≠ 3) (h2 : (mI M (s + 40) k).toNat < r) : valr M s m r k = gq (rowp M s m) m (mI M (s + 40) k).toNat m := if_pos ⟨h, h2⟩
theorem valr_n {M : mM} {s m k r : Nat} (h : ¬ ((mI M (s + 36) k ≠ 0 ∧ mI M (s + 22) k ≠ 3) ∧ (mI M (s + 40) k).toNat < r)) : valr M s m r k = if mI M (s + 22) k = 3 then 1 else 0 := if_neg h
section VX
variable {M : mM} {s m : Nat} {N : Nat → Nat → Int} {D : Nat → Int}
theorem valx_01 (hE : Enu M s m) (hS : Sy m (rowp M s m) N D) {k : Nat} (hk : (k : Int) < mI M s 1) : 0 ≤ valx M s m k ∧ valx M s m k ≤ 1 := by
  unfold valx
  by_cases q : mI M (s + 36) k ≠ 0 ∧ mI M (s + 22) k ≠ 3
  · rw [if_pos q]
    obtain ⟨r1, r2, r3⟩ := hE.2.1 k hk q
    exact hS.q01 (by omega) (by omega) (by omega)
  · rw [if_neg q]
    split <;> exact ⟨by decide, by decide⟩
theorem valx_eq (hE : Enu M s m) (hG : GW M s) (hS : Sy m (rowp M s m) N D) {k : Nat} (hk : (k : Int) < mI M s 1) (hu : unk M s k) : valx M s m k = cw M s (cx M s k (pl M s k)) (valx M s m) := by
  obtain ⟨r1, r2, r3⟩ := hE.2.1 k hk hu
  have hi : (mI M (s + 40) k).toNat < m := by omega
  have euj : uu M s (mI M (s + 40) k).toNat = k := by unfold uu; omega
  obtain ⟨⟨h, g⟩, -⟩ := hS
  have e := gq_eq g m (by omega) (mI M (s + 40) k).toNat m
  have e1 : valx M s m k = gq (rowp M s m) m (mI M (s + 40) k).toNat m := if_pos hu
  rw [rowp_sum hE hG hi (fun t => gq (rowp M s m) m t m), rowp_m, ← cw_add] at e
  rw [e1, e]
  have e2 : rwc M s (mI M (s + 40) k).toNat = cx M s k (pl M s k) := by unfold rwc; rw [euj]
  rw [e2]
  refine cw_congr (fun b hb => ?_)
  generalize tg M s (bg M s (cx M s k (pl M s k)) + b) = t
  show (isT M s t : Rat) + eU M s (fun t => gq (rowp M s m) m t m) t = valx M s m t
  unfold isT eU valx
  have z0 : ((0 : Int) : Rat) = 0 := rfl
  have z1 : ((1 : Int) : Rat) = 1 := rfl
  by_cases q : mI M (s + 22) t = 3
  · rw [if_pos q, if_neg (fun w => w.2 q), if_neg (fun w => w.2 q), if_pos q, z1]; grind
  · rw [if_neg q, if_neg q, z0]
    by_cases z : mI M (s + 36) t ≠ 0 ∧ mI M (s + 22) t ≠ 3
    · rw [if_pos z]; exact Rat.zero_add _
    · rw [if_neg z]; exact Rat.zero_add _
end VX
abbrev tS (s : Nat) : Nat → Prop := fun x => (s + 2 ≤ x ∧ x ≤ s + 21) ∨ (s + 42 ≤ x ∧ x ≤ s + 51) ∨ (s + 57 ≤ x ∧ x ≤ s + 61) ∨ eS s 88 x ∨ (s + 12868 ≤ x ∧ x ≤ s + 21067)
section VS
variable {G : mG} {d s m n : Nat} {M : mM} {N : Nat → Nat → Int} {D : Nat → Int}
theorem s_MS_settle (hm : m ≤ 40) (hO : mOk M) (hV : Vk M s) (hG : GW M s) (hC : GB M s) (hn : mI M s 1 = n) (h24 : mI M s 24 = m) (hE : Enu M s m) (hS : Sy m (rowp M s m) N D) (hW : Wk M s) (hT : Ct M s) (hR : Rm M s 88) :
    Cv G y_MS_settle (d + 7) [vr s] M (fun M' => mOk M' ∧ FI (tS s) M M' ∧ Wk M' s ∧ Ct M' s ∧ Rm M' s 88 ∧ Xt M' s 88 n (valx M s m)) := by
  have h2 := hG.2.1
  have h1 := hG.1
  refine k_MS_settle hO ⟨hV.k0, (s_MS_writeRows (d := d + 1) hm hO hV hG hC h24 hE hW hT).mono (fun M1 g1 => ?_)⟩
  obtain ⟨o1, f1, W1, T1, B1⟩ := g1
  have V1 := hV.fi f1
  have fe1 := f1.2.2.2.2.2.2
  refine ⟨o1, V1.k0, (s_MS_solveRows (d := d) hm o1 V1 (by rw [fe1 s (by omega), h24]) W1 hS B1).mono (fun M2 g2 => ?_)⟩
  obtain ⟨o2, f2, W2, B2⟩ := g2
  have V2 := V1.fi f2
  have f12 : FI (tS s) M M2 := (f1.mono (fun y q => by omega)).trans (f2.mono (fun y q => by omega))
  have R2 : Rm M2 s 88 := (hR.out f1 (fun y q => by omega)).out f2 (fun y q => by omega)
  have T2 : Ct M2 s := fun i j hi hj => by
    by_cases q : i < m ∧ j ≤ m
    · exact (B2 i j q.1 q.2).1.ft
    · exact (T1 i j hi hj).out f2 (fun x w => by unfold cel; omega)
  refine ⟨o2, ?_⟩
  suffices H : ∀ (t i : Nat) (M3 : mM), i + t = n → mOk M3 → FI (tS s) M M3 → Wk M3 s → Ct M3 s → Tb M3 s m (tA (rowp M s m) m m) → Rm M3 s 88 → Xt M3 s 88 i (valr M s m 0) → h_MS_settle_10 G (d + 6) s i M3 (fun M' => mOk M' ∧ FI (tS s) M M' ∧ Wk M' s ∧ Ct M' s ∧ Rm M' s 88 ∧ Xt M' s 88 n (valx M s m)) from
    H n 0 M2 (by omega) o2 f12 W2 T2 B2 R2 (fun k hk => by omega)
  clear T2 R2 f12 V2 B2 W2 f2 o2 M2 fe1 V1 B1 T1 W1 f1 o1 M1
  intro t
  induction t with
  | zero =>
    intro i M3 hi o3 f3 W3 T3 B3 R3 X3
    have ei : i = n := by omega
    subst ei
    have V3 := hV.fi f3
    have fe := f3.2.2.2.2.2.2
    refine k_MS_settle_10 o3 ⟨by omega, by omega⟩ ?_
    rw [fe s (by omega), hn]
    refine ⟨V3.k0, fun _ => ?_, fun q => by omega⟩
    suffices H : ∀ (t r : Nat) (M3 : mM), r + t = m → mOk M3 → FI (tS s) M M3 → Wk M3 s → Ct M3 s → Tb M3 s m (tA (rowp M s m) m m) → Rm M3 s 88 → Xt M3 s 88 i (valr M s m r) → h_MS_settle_51 G (d + 6) s r M3 (fun M' => mOk M' ∧ FI (tS s) M M' ∧ Wk M' s ∧ Ct M' s ∧ Rm M' s 88 ∧ Xt M' s 88 i (valx M s m)) from
      H m 0 M3 (by omega) o3 f3 W3 T3 B3 R3 X3
    clear fe V3 X3 R3 B3 T3 W3 f3 o3 M3
    intro t
    induction t with
    | zero =>
      intro r M3 hr o3 f3 W3 T3 B3 R3 X3
      have er : r = m := by omega
      subst er
      have V3 := hV.fi f3
      have fe := f3.2.2.2.2.2.2
      refine k_MS_settle_51 o3 ⟨by omega, by omega⟩ ?_
      rw [fe s (by omega), h24]
      refine ⟨V3.k0, fun _ => ⟨o3, f3, W3, T3, R3, X3.congr (fun k hk => ?_)⟩, fun q => by omega⟩
      by_cases q : mI M (s + 36) k ≠ 0 ∧ mI M (s + 22) k ≠ 3
      · obtain ⟨r1, r2, r3⟩ := hE.2.1 k (by omega) q
        rw [valx_y q, valr_y q (by omega)]
      · rw [valx_n q, valr_n (fun w => q w.1)]
    | succ t ih =>
      intro r M3 hr o3 f3 W3 T3 B3 R3 X3
      have hrm : r < m := by omega
      have V3 := hV.fi f3
      have fe := f3.2.2.2.2.2.2
      obtain ⟨u1, u2, u3, u4⟩ := hE.1 r hrm
      have huu : (mI M (s + 39) r).toNat = uu M s r := rfl
      have huu2 : (uu M s r : Int) = mI M (s + 39) r := by unfold uu; omega
      refine k_MS_settle_51 o3 ⟨by omega, by omega⟩ ?_
      rw [V3.r22, V3.r21, V3.n39, V3.n38, fe s (by omega), h24, fe (s + 39) (by omega), Int.toNat_natCast, huu, V3.f38 _ (by omega)]
      refine ⟨V3.k0, fun q => by omega, fun _ => ⟨V3.k39, by omega, V3.k38, by omega, (s_MS_cell (by omega) (by omega) o3 V3).mono (fun x M4 h4 => ?_)⟩⟩
      obtain ⟨e4, hx⟩ := h4
      subst e4 hx
      have cr := B3 r m hrm (by omega)
      have rk := R3 (uu M s r) (by omega)
      refine ⟨o3, rk.1.1, (s_MF_copy o3 rk cr.1 (by unfold cel; omega) cr.1.2.1.1.2.2.2.2.2.2 cr.1.2.2.1.1.2.2.2.2.2.2).mono (fun M5 h5 => ?_)⟩
      obtain ⟨o5, f5, F5, w4, w5, w6⟩ := h5
      have C5 := fc_copy cr.2.1 w4 w5 w6
      have f5' : FI (eS s 88) M4 M5 := f5.mono (fun y q => by have q' : s + 88 + 25 * uu M s r ≤ y ∧ y ≤ s + 88 + 25 * uu M s r + 4 := q; omega)
      have e5 : fv M5 (s + 88 + 25 * uu M s r) = valr M s m (r + 1) (uu M s r) := by
        rw [C5.2, cr.2.2]
        unfold valr
        rw [if_pos ⟨u3, by omega⟩, u4, Int.toNat_natCast]
        unfold tA
        rw [if_pos rfl]
      have X5 := X3.put (x' := valr M s m (r + 1)) (n' := i) f5 F5 C5.1 e5 (fun j hj => by
        by_cases z : j = uu M s r
        · exact Or.inl z
        · refine Or.inr ⟨hj, ?_⟩
          by_cases q : mI M (s + 36) j ≠ 0 ∧ mI M (s + 22) j ≠ 3
          · obtain ⟨r1, r2, r3⟩ := hE.2.1 j (by omega) q
            have hne : (mI M (s + 40) j).toNat ≠ r := fun y => z (by unfold uu; rw [y] at r3; omega)
            by_cases y : (mI M (s + 40) j).toNat < r
            · rw [valr_y q (by omega), valr_y q y]
            · rw [valr_n (fun w => y (by have := w.2; omega)), valr_n (fun w => y w.2)]
          · rw [valr_n (fun w => q w.1), valr_n (fun w => q w.1)])
      exact ⟨o5, ih (r + 1) M5 (by omega) o5 (f3.trans (f5'.mono (fun y q => Or.inr (Or.inr (Or.inr (Or.inl q)))))) (W3.far f5' (fun y q => by have := q.1; omega)) (T3.out f5' (fun y q => by have := q.2.1; have := q.1; have := q.2.2; omega)) (B3.out f5' (fun y q => by have := q.2.1; have := q.1; have := q.2.2; omega)) (R3.put (by omega) f5 F5.ft) X5⟩
  | succ t ih =>
    intro i M3 hi o3 f3 W3 T3 B3 R3 X3
    have V3 := hV.fi f3
    have fe := f3.2.2.2.2.2.2
    have rk := R3 i (by omega)
    refine k_MS_settle_10 o3 ⟨by omega, by omega⟩ ?_
    rw [V3.r21, V3.r4, V3.n38, V3.n22, fe s (by omega), hn, fe (s + 22) (by omega), Int.toNat_natCast, V3.f38 _ (by omega)]
    refine ⟨V3.k0, fun q => by omega, fun _ => ⟨V3.k38, by omega, V3.k22, by omega, fun v hv => ⟨rk.1.1, (s_MF_set ⟨by split at hv <;> omega, by split at hv <;> omega⟩ (by split at hv <;> omega) ⟨by omega, by omega⟩ (by omega) o3 rk (by omega)).mono (fun M5 h5 => ?_)⟩⟩⟩
    obtain ⟨o5, f5, F5, y1, y2, y3⟩ := h5
    have C5 := fc_one F5 y2 (fun q => y3 (by omega))
    have f5' : FI (eS s 88) M3 M5 := f5.mono (fun y q => by have q' : s + 88 + 25 * i ≤ y ∧ y ≤ s + 88 + 25 * i + 4 := q; omega)
    have e5 : fv M5 (s + 88 + 25 * i) = valr M s m 0 i := by
      rw [fv_set y1 y2]
      have z0 : ((0 : Int) : Rat) = 0 := rfl
      have z1 : ((1 : Int) : Rat) = 1 := rfl
      unfold valr
      rw [if_neg (fun w => by have := w.2; omega), z1]
      by_cases q : mI M (s + 22) i = 3
      · rw [if_pos q] at hv ⊢
        rw [hv, z1]; grind
      · rw [if_neg q] at hv ⊢
        rw [hv, z0]; grind
    have X5 := X3.put (x' := valr M s m 0) (n' := i + 1) f5 F5 C5 e5 (fun j hj => by
      by_cases z : j = i
      · exact Or.inl z
      · exact Or.inr ⟨by omega, rfl⟩)
    exact ⟨o5, ih (i + 1) M5 (by omega) o5 (f3.trans (f5'.mono (fun y q => Or.inr (Or.inr (Or.inr (Or.inl q)))))) (W3.far f5' (fun y q => by have := q.1; omega)) (T3.out f5' (fun y q => by have := q.2.1; have := q.1; have := q.2.2; omega)) (B3.out f5' (fun y q => by have := q.2.1; have := q.1; have := q.2.2; omega)) (R3.put (by omega) f5 F5.ft) X5⟩
end VS
end
section
/-! The solver: improve. -/
theorem exF : ∀ n : Nat, ∃ F : Int, 0 < F ∧ ∀ e : Int, 0 < e → e < n → e ∣ F
  | 0 => ⟨1, by omega, fun e h1 h2 => by omega⟩
  | n + 1 => by
    obtain ⟨F, h0, h⟩ := exF n
    by_cases q : n = 0
    · exact ⟨F, h0, fun e h1 h2 => by omega⟩
    · refine ⟨F * n, Int.mul_pos h0 (by omega), fun e h1 h2 => ?_⟩
      by_cases z : e = n
      · rw [z]; exact Int.dvd_mul_left _ _
      · exact Int.dvd_trans (h e h1 (by omega)) (Int.dvd_mul_right _ _)
/-- F makes whole numbers of all small values -/
def Fall (F : Int) : Prop := 0 < F ∧ ∀ e : Int, 0 < e → e < 16777216 ^ 56 → e ∣ F
theorem fall_ex : ∃ F, Fall F := by
  obtain ⟨F, h0, h⟩ := exF ((16777216 : Int) ^ 56).toNat
  refine ⟨F, h0, fun e h1 h2 => h e h1 ?_⟩
  rw [Int.toNat_of_nonneg (Int.pow_nonneg (by omega))]
  exact h2
theorem Fall.int {F : Int} (h : Fall F) {x : Rat} (hx : Sml x) : ∃ z : Int, x * (F : Rat) = (z : Rat) := by
  obtain ⟨E, z, h0, h1, h2, -, -⟩ := hx
  obtain ⟨t, ht⟩ := h.2 E h0 h1
  refine ⟨z * t, ?_⟩
  rw [ht, Rat.intCast_mul, Rat.intCast_mul, ← h2]
  grind
theorem fv_wv {M : mM} {f r : Nat} (hF : Fq M f r) (h : 0 ≤ fv M f) : sn M f = wv M (f + 1) := by
  have p : 0 < sd M f := hF.2.2.2.2
  have e := fv_sd hF
  have a := Rat.mul_nonneg h (Rat.le_of_lt (Rat.intCast_pos.2 p))
  rw [e] at a
  have b : 0 ≤ sn M f := ic_le (by have : ((0 : Int) : Rat) = 0 := rfl; rw [this]; exact a)
  have hn := hF.2.1.nonneg
  unfold sn at b ⊢
  split at b <;> (try rw [if_pos (by assumption)]) <;> (try rw [if_neg (by assumption)]) <;> omega
theorem ic_lt {x y : Int} : (x : Rat) < (y : Rat) ↔ x < y := by exact_mod_cast Iff.rfl
theorem fv_cmp {M : mM} {a b ra rb : Nat} (hA : Fq M a ra) (hB : Fq M b rb) (ha : 0 ≤ fv M a) (hb : 0 ≤ fv M b) : (wv M (a + 1) * wv M (b + 3) < wv M (b + 1) * wv M (a + 3) ↔ fv M a < fv M b) ∧ (wv M (a + 1) * wv M (b + 3) = wv M (b + 1) * wv M (a + 3) ↔ fv M a = fv M b) := by
  have p1 : 0 < sd M a := hA.2.2.2.2
  have p2 : 0 < sd M b := hB.2.2.2.2
  have e1 := fv_sd hA
  have e2 := fv_sd hB
  rw [fv_wv hA ha] at e1
  rw [fv_wv hB hb] at e2
  have q1 : (0 : Rat) < (sd M a : Rat) := Rat.intCast_pos.2 p1
  have q2 : (0 : Rat) < (sd M b : Rat) := Rat.intCast_pos.2 p2
  have s1 : sd M a = wv M (a + 3) := rfl
  have s2 : sd M b = wv M (b + 3) := rfl
  rw [s1] at e1 q1
  rw [s2] at e2 q2
  have c1 : ((wv M (a + 1) * wv M (b + 3) : Int) : Rat) = fv M a * ((wv M (a + 3) : Rat) * (wv M (b + 3) : Rat)) := by rw [Rat.intCast_mul, ← e1]; grind
  have c2 : ((wv M (b + 1) * wv M (a + 3) : Int) : Rat) = fv M b * ((wv M (a + 3) : Rat) * (wv M (b + 3) : Rat)) := by rw [Rat.intCast_mul, ← e2]; grind
  have hp := Rat.mul_pos q1 q2
  generalize (wv M (a + 3) : Rat) * (wv M (b + 3) : Rat) = P at *
  generalize fv M a = x at *
  generalize fv M b = y at *
  clear e1 e2 q1 q2
  refine ⟨⟨fun h => ?_, fun h => ?_⟩, ⟨fun h => ?_, fun h => ?_⟩⟩
  · have h' := ic_lt.2 h
    rw [c1, c2] at h'
    refine Classical.byContradiction (fun w => ?_)
    have a := Rat.mul_nonneg (a := x - y) (b := P) (by grind) (Rat.le_of_lt hp)
    grind
  · refine ic_lt.1 ?_
    rw [c1, c2]
    have a := Rat.mul_pos (a := y - x) (b := P) (by grind) hp
    grind
  · have h' : ((wv M (a + 1) * wv M (b + 3) : Int) : Rat) = ((wv M (b + 1) * wv M (a + 3) : Int) : Rat) := by rw [h]
    rw [c1, c2] at h'
    have i := Rat.mul_inv_cancel P (by grind)
    have e : x * P * P⁻¹ = y * P * P⁻¹ := by rw [h']
    grind
  · have h' : ((wv M (a + 1) * wv M (b + 3) : Int) : Rat) = ((wv M (b + 1) * wv M (a + 3) : Int) : Rat) := by rw [c1, c2, h]
    exact_mod_cast h'
/-- command i of state k is better for the player -/
def betP (M : mM) (s : Nat) (x : Nat → Rat) (q : Int) (k i : Nat) : Prop := if q = 1 then x k < cw M s (cx M s k i) x else cw M s (cx M s k i) x < x k
abbrev iS (s : Nat) : Nat → Prop := fun x => wS s x ∨ x = s + 35
/-- what improve leaves behind -/
def imQ (M : mM) (s : Nat) (x : Nat → Rat) (q : Int) (k : Nat) (r : Int) (M' : mM) : Prop := mOk M' ∧ Wk M' s ∧ FI (iS s) M M' ∧ ((r = 0 ∧ mI M' (s + 35) = mI M (s + 35) ∧ (mI M (s + 22) k = q → ∀ i : Nat, (i : Int) < mny M s k → mayP M s k i → ¬ betP M s x q k i)) ∨ (r = 1 ∧ mI M (s + 22) k = q ∧ ∃ i : Nat, (i : Int) < mny M s k ∧ mayP M s k i ∧ betP M s x q k i ∧ ∀ j, mI M' (s + 35) j = if j = k then (i : Int) else mI M (s + 35) j))
section VS
variable {G : mG} {d s n : Nat} {M : mM} {x : Nat → Rat}
theorem s_MS_improve {k : Nat} {q : Int} (hq : q = 1 ∨ q = 2) (hO : mOk M) (hV : Vk M s) (hG : GW M s) (hC : GB M s) (hn : mI M s 1 = n) (hk : (k : Int) < mI M s 1) (hW : Wk M s) (hX : Xt M s 88 n x) (h01 : ∀ t, t < n → 0 ≤ x t ∧ x t ≤ 1) :
    Ci G y_MS_improve (d + 6) [vr s, vi k, vi q] M (fun r M' => imQ M s x q k r M') := by
  have h2 := hG.2.1
  have h3 := hG.2.2.1
  have hc := hG.cmd hk
  have hm0 : 0 ≤ mny M s k ∧ mny M s k ≤ 4200 := by unfold mny; omega
  refine k_MS_improve hO ⟨by omega, by omega⟩ ⟨by omega, by omega⟩ ?_
  suffices H : ∀ (r i : Nat) (M2 : mM), r = (mny M s k).toNat - i → mOk M2 → FI (wS s) M M2 → Wk M2 s → (mI M (s + 22) k = q → ∀ i' : Nat, i' < i → (i' : Int) < mny M s k → mayP M s k i' → ¬ betP M s x q k i') → (i : Int) ≤ mny M s k → h_MS_improve_2 G (d + 5) s k q i M2 (fun r M' => imQ M s x q k r M') from
    H _ 0 M rfl hO FI.refl hW (fun _ i' hi' => by omega) (by omega)
  intro r
  induction r with
  | zero =>
    intro i M2 hr o2 f2 W2 hB hi
    have V2 := hV.fi f2
    have G2 : sameG M M2 s := sameG.of f2 (by omega) (fun y _ _ => by omega)
    have fe := f2.2.2.2.2.2.2
    refine k_MS_improve_2 o2 ⟨by omega, by omega⟩ ⟨by omega, by omega⟩ ⟨by omega, by omega⟩ ?_
    rw [V2.r4, V2.n22, fe (s + 22) (by omega), Int.toNat_natCast]
    refine ⟨V2.k0, V2.k22, by omega, fun e => (s_MS_many o2 V2 (G2.gw hG) (by rw [G2.1]; exact hk)).mono (fun y M3 h3' => ?_), fun e => ⟨o2, W2, f2.mono (fun y w => Or.inl w), Or.inl ⟨rfl, fe (s + 35) (by omega), fun w => absurd w e⟩⟩⟩
    obtain ⟨e3, hy⟩ := h3'
    subst e3
    rw [G2.hm] at hy
    exact ⟨⟨by omega, by omega⟩, o2, fun _ => ⟨o2, W2, f2.mono (fun y w => Or.inl w), Or.inl ⟨rfl, fe (s + 35) (by omega), fun w i' hi' => hB w i' (by omega) hi'⟩⟩, fun w => by omega⟩
  | succ r ih =>
    intro i M2 hr o2 f2 W2 hB hi
    have V2 := hV.fi f2
    have G2 : sameG M M2 s := sameG.of f2 (by omega) (fun y _ _ => by omega)
    have fe := f2.2.2.2.2.2.2
    have GG := G2.gw hG
    have hk2 : (k : Int) < mI M2 s 1 := by rw [G2.1]; exact hk
    have him : (i : Int) < mny M s k := by omega
    have hmay : mayP M2 s k i ↔ mayP M s k i := by
      unfold mayP
      rw [fe s (by omega), fe (s + 22) (by omega), fe (s + 32) (by omega)]
    refine k_MS_improve_2 o2 ⟨by omega, by omega⟩ ⟨by omega, by omega⟩ ⟨by omega, by omega⟩ ?_
    rw [V2.r4, V2.n22, fe (s + 22) (by omega), Int.toNat_natCast]
    refine ⟨V2.k0, V2.k22, by omega, fun e => (s_MS_many o2 V2 GG hk2).mono (fun y M3 h3' => ?_), fun e => ⟨o2, W2, f2.mono (fun y w => Or.inl w), Or.inl ⟨rfl, fe (s + 35) (by omega), fun w => absurd w e⟩⟩⟩
    obtain ⟨e3, hy⟩ := h3'
    subst e3
    rw [G2.hm] at hy
    refine ⟨⟨by omega, by omega⟩, o2, fun w => by omega, fun _ => ⟨V2.k0, (s_MS_may (by omega) o2 V2 GG hk2).mono (fun z M4 h4 => ?_)⟩⟩
    obtain ⟨e4, hz, hzq⟩ := h4
    subst e4
    refine ⟨⟨by omega, by omega⟩, o2, fun w => ?_, fun w => ?_⟩
    · refine ih (i + 1) M4 (by omega) o2 f2 W2 (fun w' i' hi' hi2 hm => ?_) (by omega)
      by_cases z' : i' = i
      · subst z'
        exact absurd w (hzq.2 (hmay.2 hm))
      · exact hB w' i' (by omega) hi2 hm
    · have hmi : mayP M s k i := hmay.1 (hzq.1 w)
      have X2 := hX.out f2 (fun y w => by omega)
      rw [V2.r21]
      refine ⟨V2.k0, (s_MS_worthOf (d := d) (n := n) (Or.inl ⟨rfl, rfl, rfl⟩) o2 V2 GG (G2.gb hC) (by rw [G2.1]; exact hn) hk2 (by rw [G2.hm]; exact him) W2 X2 h01).mono (fun M5 h5 => ?_)⟩
      obtain ⟨o5, f5, W5, F5, C5, v5, s5⟩ := h5
      rw [G2.hw, G2.hx] at v5 s5
      have V5 := V2.fi f5
      have f25 := f2.trans f5
      have fe5 := f25.2.2.2.2.2.2
      have X5 := X2.out f5 (fun y w => by omega)
      have xk := X5 k (by omega)
      have sz := smp_size F5 C5 (by rw [v5]; exact s5)
      have z3 := xk.1.2.1.1.2.2.2.2.2.2
      have z4 := xk.1.2.2.1.1.2.2.2.2.2.2
      have hx0 := h01 k (by omega)
      have hcx : (cx M s k i : Int) < mI M s 2 := by
        have := him
        unfold mny at this
        unfold cx
        omega
      have hw0 : 0 ≤ cw M s (cx M s k i) x := by
        have a := cw_le hC hcx (f := fun _ => 0) (g := x) (fun b hb => (h01 _ (by have := tg_lt hG hcx hb; omega)).1)
        rw [cw_const hC hcx] at a
        exact a
      rw [V5.r21, V5.r0, V5.r28, V5.n38, V5.f38 k (by omega)]
      refine ⟨o5, V5.k0, V5.k38, by omega, W5.1.1.1, (s_MU_compare (d := d + 3) o5 W5.1 F5 xk.1 (by unfold suO; omega) (by unfold suO; omega) (by omega) (by omega)).mono (fun c M6 h6 => ?_)⟩
      obtain ⟨o6, f6, Z6, hcv⟩ := h6
      have hcm := fv_cmp F5 xk.1 (by rw [v5]; exact hw0) (by rw [xk.2.2]; exact hx0.1)
      rw [v5, xk.2.2] at hcm
      have f6' : FI (wS s) M5 M6 := f6.mono (fun y w => by omega)
      have V6 := V5.fi f6
      have W6 : Wk M6 s := W5.out f6 Z6 (fun y w => by omega)
      have f26 := f25.trans f6'
      have fe6 := f26.2.2.2.2.2.2
      have hnext : ¬ betP M s x q k i → h_MS_improve_2 G (d + 5) s k q ((i : Int) + 1) M6 (fun r M' => imQ M s x q k r M') := fun hb => by
        refine ih (i + 1) M6 (by omega) o6 f26 W6 (fun w' i' hi' hi2 hm => ?_) (by omega)
        by_cases z' : i' = i
        · subst z'; exact hb
        · exact hB w' i' (by omega) hi2 hm
      have hend : betP M s x q k i → ∀ M7, M7 = mUI M6 (s + 35) k i → imQ M s x q k 1 M7 := fun hb M7 e7 => by
        have f7 : FI (fun y => y = s + 35) M6 M7 := by rw [e7]; exact FI.ui rfl
        have o7 : mOk M7 := by rw [e7]; exact mOk_UI o6 ⟨by omega, by omega⟩
        refine ⟨o7, W6.far f7 (fun y w => by omega), (f26.mono (fun y w => Or.inl w)).trans (f7.mono (fun y w => Or.inr w)), Or.inr ⟨rfl, e, i, him, hmi, hb, fun j => ?_⟩⟩
        rw [e7, mI_UI, fe6 (s + 35) (by omega)]
        by_cases z' : j = k
        · rw [if_pos ⟨rfl, z'⟩, if_pos z']
        · rw [if_neg (fun w => z' w.2), if_neg z']
      have hc3 : c = -1 ∨ c = 0 ∨ c = 1 := by split at hcv <;> (try split at hcv) <;> omega
      rw [V6.r18, V6.n35]
      refine ⟨⟨by omega, by omega⟩, o6, fun w1 => ⟨fun w2 => hnext ?_, fun w2 => ⟨V6.k0, V6.k35, by omega, hend ?_⟩⟩, fun w1 => ⟨fun w2 => hnext ?_, fun w2 => ⟨V6.k0, V6.k35, by omega, hend ?_⟩⟩⟩
      · unfold betP
        rw [if_pos w1]
        by_cases y1 : wv M5 (s + 52 + 1) * wv M5 (s + 88 + 25 * k + 3) < wv M5 (s + 88 + 25 * k + 1) * wv M5 (s + 52 + 3)
        · have := hcm.1.1 y1; grind
        · rw [if_neg y1] at hcv
          by_cases y2 : wv M5 (s + 52 + 1) * wv M5 (s + 88 + 25 * k + 3) = wv M5 (s + 88 + 25 * k + 1) * wv M5 (s + 52 + 3)
          · have := hcm.2.1 y2; grind
          · rw [if_neg y2] at hcv; omega
      · unfold betP
        rw [if_pos w1]
        by_cases y1 : wv M5 (s + 52 + 1) * wv M5 (s + 88 + 25 * k + 3) < wv M5 (s + 88 + 25 * k + 1) * wv M5 (s + 52 + 3)
        · rw [if_pos y1] at hcv; omega
        · rw [if_neg y1] at hcv
          by_cases y2 : wv M5 (s + 52 + 1) * wv M5 (s + 88 + 25 * k + 3) = wv M5 (s + 88 + 25 * k + 1) * wv M5 (s + 52 + 3)
          · rw [if_pos y2] at hcv; omega
          · have a1 : ¬ cw M s (cx M s k i) x < x k := fun y => y1 (hcm.1.2 y)
            have a2 : ¬ cw M s (cx M s k i) x = x k := fun y => y2 (hcm.2.2 y)
            grind
      · unfold betP
        rw [if_neg w1]
        by_cases y1 : wv M5 (s + 52 + 1) * wv M5 (s + 88 + 25 * k + 3) < wv M5 (s + 88 + 25 * k + 1) * wv M5 (s + 52 + 3)
        · rw [if_pos y1] at hcv; omega
        · exact fun y => y1 (hcm.1.2 y)
      · unfold betP
        rw [if_neg w1]
        by_cases y1 : wv M5 (s + 52 + 1) * wv M5 (s + 88 + 25 * k + 3) < wv M5 (s + 88 + 25 * k + 1) * wv M5 (s + 52 + 3)
        · exact hcm.1.1 y1
        · rw [if_neg y1] at hcv
          split at hcv <;> omega
end VS
end
