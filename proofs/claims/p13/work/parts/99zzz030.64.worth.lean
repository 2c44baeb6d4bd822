/-! What a command is worth: a sum over its branches. -/
theorem sr_lt {f g : Nat → Rat} : ∀ (n : Nat), (∀ j, j < n → f j ≤ g j) → (∃ j, j < n ∧ f j < g j) → sr f n < sr g n
  | 0, _, h => by obtain ⟨j, h, _⟩ := h; omega
  | n + 1, h, h2 => by
    obtain ⟨j, h3, h4⟩ := h2
    rw [sr, sr]
    by_cases q : j = n
    · subst q
      have a := sr_le j (fun i hi => h i (by omega))
      grind
    · have a := sr_lt n (fun i hi => h i (by omega)) ⟨j, by omega, h4⟩
      have b := h n (by omega)
      grind
/-- the chance of branch b -/
def chq (M : mM) (s b : Nat) : Rat := (mI M (s + 27) b : Rat) * (mI M (s + 28) b : Rat)⁻¹
/-- where the branches of command c begin, how many they are, where branch b leads -/
def bg (M : mM) (s c : Nat) : Nat := (mI M (s + 25) c).toNat
def nb (M : mM) (s c : Nat) : Nat := (mI M (s + 25) (c + 1) - mI M (s + 25) c).toNat
def tg (M : mM) (s b : Nat) : Nat := (mI M (s + 26) b).toNat
def cx (M : mM) (s k i : Nat) : Nat := (mI M (s + 23) k).toNat + i
def cw (M : mM) (s c : Nat) (f : Nat → Rat) : Rat := sr (fun b => chq M s (bg M s c + b) * f (tg M s (bg M s c + b))) (nb M s c)
/-- the chances of each command are sound -/
def GB (M : mM) (s : Nat) : Prop := ∀ c : Nat, (c : Int) < mI M s 2 → (1 ≤ mI M (s + 24) c ∧ mI M (s + 24) c < 1000000000 ∧ nb M s c ≤ 8) ∧ (∀ b, b < nb M s c → 0 < mI M (s + 27) (bg M s c + b) ∧ 0 < mI M (s + 28) (bg M s c + b) ∧ mI M (s + 28) (bg M s c + b) ∣ mI M (s + 24) c) ∧ sm (fun b => mI M (s + 27) (bg M s c + b) * (mI M (s + 24) c / mI M (s + 28) (bg M s c + b))) (nb M s c) = mI M (s + 24) c
/-- nothing of the game has changed -/
def sameG (M M' : mM) (s : Nat) : Prop := mI M' s 1 = mI M s 1 ∧ mI M' s 2 = mI M s 2 ∧ mI M' s 3 = mI M s 3 ∧ ∀ x, s + 22 ≤ x → x ≤ s + 28 → mI M' x = mI M x
theorem sameG.of {S : Nat → Prop} {M M' : mM} {s : Nat} (f : FI S M M') (h0 : ¬ S s) (h1 : ∀ x, s + 22 ≤ x → x ≤ s + 28 → ¬ S x) : sameG M M' s := by
  have f := f.2.2.2.2.2.2
  exact ⟨by rw [f s h0], by rw [f s h0], by rw [f s h0], fun x a b => f x (h1 x a b)⟩
theorem sameG.trans {M M' M'' : mM} {s : Nat} (h : sameG M M' s) (h' : sameG M' M'' s) : sameG M M'' s :=
  ⟨h'.1.trans h.1, h'.2.1.trans h.2.1, h'.2.2.1.trans h.2.2.1, fun x a b => (h'.2.2.2 x a b).trans (h.2.2.2 x a b)⟩
theorem sameG.refl {M : mM} {s : Nat} : sameG M M s := ⟨rfl, rfl, rfl, fun _ _ _ => rfl⟩
section SG
variable {M M' : mM} {s : Nat}
theorem sameG.gw (h : sameG M M' s) (g : GW M s) : GW M' s := by
  unfold GW at g ⊢
  rw [h.1, h.2.1, h.2.2.1, h.2.2.2 (s + 23) (by omega) (by omega), h.2.2.2 (s + 25) (by omega) (by omega), h.2.2.2 (s + 26) (by omega) (by omega)]
  exact g
theorem sameG.hq (h : sameG M M' s) : chq M' s = chq M s := by
  funext b
  unfold chq
  rw [h.2.2.2 (s + 27) (by omega) (by omega), h.2.2.2 (s + 28) (by omega) (by omega)]
theorem sameG.hb (h : sameG M M' s) : bg M' s = bg M s := by
  funext c
  unfold bg
  rw [h.2.2.2 (s + 25) (by omega) (by omega)]
theorem sameG.hn (h : sameG M M' s) : nb M' s = nb M s := by
  funext c
  unfold nb
  rw [h.2.2.2 (s + 25) (by omega) (by omega)]
theorem sameG.ht (h : sameG M M' s) : tg M' s = tg M s := by
  funext c
  unfold tg
  rw [h.2.2.2 (s + 26) (by omega) (by omega)]
theorem sameG.hx (h : sameG M M' s) : cx M' s = cx M s := by
  funext k i
  unfold cx
  rw [h.2.2.2 (s + 23) (by omega) (by omega)]
theorem sameG.hw (h : sameG M M' s) : cw M' s = cw M s := by
  funext c f
  unfold cw
  rw [h.hq, h.hb, h.hn, h.ht]
theorem sameG.gb (h : sameG M M' s) (g : GB M s) : GB M' s := by
  unfold GB at g ⊢
  rw [h.2.1, h.hn, h.hb, h.2.2.2 (s + 24) (by omega) (by omega), h.2.2.2 (s + 27) (by omega) (by omega), h.2.2.2 (s + 28) (by omega) (by omega)]
  exact g
theorem sameG.hm (h : sameG M M' s) : mny M' s = mny M s := by
  funext k
  unfold mny
  rw [h.2.2.2 (s + 23) (by omega) (by omega)]
end SG
section CW
variable {M : mM} {s c : Nat}
theorem GB.chq_pos (h : GB M s) (hc : (c : Int) < mI M s 2) {b : Nat} (hb : b < nb M s c) : 0 < chq M s (bg M s c + b) := by
  obtain ⟨h1, h2, -⟩ := (h c hc).2.1 b hb
  exact Rat.mul_pos (Rat.intCast_pos.2 h1) (Rat.inv_pos.2 (Rat.intCast_pos.2 h2))
theorem GB.chq_int (h : GB M s) (hc : (c : Int) < mI M s 2) {b : Nat} (hb : b < nb M s c) : (mI M (s + 24) c : Rat) * chq M s (bg M s c + b) = ((mI M (s + 27) (bg M s c + b) * (mI M (s + 24) c / mI M (s + 28) (bg M s c + b)) : Int) : Rat) := by
  obtain ⟨h1, h2, h3⟩ := (h c hc).2.1 b hb
  have e := Int.mul_ediv_cancel' h3
  have e2 : (mI M (s + 24) c : Rat) = (mI M (s + 28) (bg M s c + b) : Rat) * ((mI M (s + 24) c / mI M (s + 28) (bg M s c + b) : Int) : Rat) := by rw [← Rat.intCast_mul, e]
  have e3 := Rat.mul_inv_cancel _ (ic_ne h2)
  unfold chq
  rw [Rat.intCast_mul]
  generalize ((mI M (s + 24) c / mI M (s + 28) (bg M s c + b) : Int) : Rat) = z at *
  generalize (mI M (s + 28) (bg M s c + b) : Rat)⁻¹ = w at *
  generalize (mI M (s + 28) (bg M s c + b) : Rat) = v at *
  generalize (mI M (s + 27) (bg M s c + b) : Rat) = y at *
  rw [e2]
  grind
theorem cw_le (h : GB M s) (hc : (c : Int) < mI M s 2) {f g : Nat → Rat} (hf : ∀ b, b < nb M s c → f (tg M s (bg M s c + b)) ≤ g (tg M s (bg M s c + b))) : cw M s c f ≤ cw M s c g := by
  refine sr_le _ (fun b hb => ?_)
  have a := Rat.mul_nonneg (Rat.le_of_lt (h.chq_pos hc hb)) (b := g (tg M s (bg M s c + b)) - f (tg M s (bg M s c + b))) (by have := hf b hb; grind)
  grind
theorem cw_lt (h : GB M s) (hc : (c : Int) < mI M s 2) {f g : Nat → Rat} (hf : ∀ b, b < nb M s c → f (tg M s (bg M s c + b)) ≤ g (tg M s (bg M s c + b))) (hl : ∃ b, b < nb M s c ∧ f (tg M s (bg M s c + b)) < g (tg M s (bg M s c + b))) : cw M s c f < cw M s c g := by
  refine sr_lt _ (fun b hb => ?_) ?_
  · have a := Rat.mul_nonneg (Rat.le_of_lt (h.chq_pos hc hb)) (b := g (tg M s (bg M s c + b)) - f (tg M s (bg M s c + b))) (by have := hf b hb; grind)
    grind
  · obtain ⟨b, hb, hl⟩ := hl
    have a := Rat.mul_pos (h.chq_pos hc hb) (b := g (tg M s (bg M s c + b)) - f (tg M s (bg M s c + b))) (by grind)
    exact ⟨b, hb, by grind⟩
theorem cw_congr {f g : Nat → Rat} (hf : ∀ b, b < nb M s c → f (tg M s (bg M s c + b)) = g (tg M s (bg M s c + b))) : cw M s c f = cw M s c g := by
  refine sr_congr _ (fun b hb => ?_)
  rw [hf b hb]
theorem cw_add {f g : Nat → Rat} : cw M s c (fun k => f k + g k) = cw M s c f + cw M s c g := by
  unfold cw
  rw [← sr_add]
  exact sr_congr _ (fun b hb => by grind)
theorem cw_mul {x : Rat} {f : Nat → Rat} : cw M s c (fun k => x * f k) = x * cw M s c f := by
  unfold cw
  rw [← sr_mul]
  exact sr_congr _ (fun b hb => by grind)
theorem cw_int (h : GB M s) (hc : (c : Int) < mI M s 2) {f : Nat → Int} : (mI M (s + 24) c : Rat) * cw M s c (fun k => (f k : Rat)) = ((sm (fun b => mI M (s + 27) (bg M s c + b) * (mI M (s + 24) c / mI M (s + 28) (bg M s c + b)) * f (tg M s (bg M s c + b))) (nb M s c) : Int) : Rat) := by
  unfold cw
  rw [sm_cast, ← sr_mul]
  refine sr_congr _ (fun b hb => ?_)
  have e := h.chq_int hc hb
  rw [Rat.intCast_mul, ← e]
  grind
theorem cw_one (h : GB M s) (hc : (c : Int) < mI M s 2) : cw M s c (fun _ => 1) = 1 := by
  have e := cw_int h hc (f := fun _ => 1)
  have e2 : sm (fun b => mI M (s + 27) (bg M s c + b) * (mI M (s + 24) c / mI M (s + 28) (bg M s c + b)) * 1) (nb M s c) = mI M (s + 24) c := by
    rw [sm_congr (g := fun b => mI M (s + 27) (bg M s c + b) * (mI M (s + 24) c / mI M (s + 28) (bg M s c + b))) _ (fun b hb => by omega)]
    exact (h c hc).2.2
  have e1 : cw M s c (fun _ => 1) = cw M s c (fun k => (((fun _ => 1) k : Int) : Rat)) := rfl
  rw [e2] at e
  rw [e1]
  have hp := (h c hc).1.1
  have e3 := Rat.inv_mul_cancel _ (ic_ne (x := mI M (s + 24) c) (by omega))
  generalize (mI M (s + 24) c : Rat) = v at *
  generalize cw M s c (fun k => (((fun _ => 1) k : Int) : Rat)) = w at *
  have e4 : v⁻¹ * (v * w) = v⁻¹ * v := by rw [e]
  grind
theorem cw_const (h : GB M s) (hc : (c : Int) < mI M s 2) {x : Rat} : cw M s c (fun _ => x) = x := by
  have e := cw_mul (M := M) (s := s) (c := c) (x := x) (f := fun _ => 1)
  rw [cw_one h hc] at e
  have e1 : cw M s c (fun _ => x) = cw M s c (fun _ => x * 1) := cw_congr (fun b hb => by grind)
  rw [e1, e]
  grind
end CW
/-- a value that k parts hold -/
def Smp (k : Nat) (x : Rat) : Prop := ∃ E z : Int, 0 < E ∧ E < 16777216 ^ k ∧ x * (E : Rat) = (z : Rat) ∧ x ≤ 1 ∧ -1 ≤ x
theorem smp_size {M : mM} {f r k : Nat} (hF : Fq M f r) (hC : Fc M f) (h : Smp k (fv M f)) : mI M (f + 1) 1 ≤ k ∧ mI M (f + 3) 1 ≤ k := by
  obtain ⟨E, z, h0, h1, h2, h3, h4⟩ := h
  have b := fv_abs hF h3 h4
  exact fc_size hF hC h2 h0 h1 b.1 b.2
theorem smp_fq {M : mM} {f : Nat} (hF : Fq M f 56) (h1 : fv M f ≤ 1) (h2 : -1 ≤ fv M f) : Smp 56 (fv M f) := by
  have p : 0 < sd M f := hF.2.2.2.2
  refine ⟨sd M f, sn M f, p, ?_, fv_sd hF, h1, h2⟩
  exact Int.lt_of_lt_of_le hF.2.2.1.lt (pow_mono (by have := hF.2.2.1.1.2.2.2.2.2.2; omega))
theorem smp_mul {x : Rat} {k : Nat} {u v : Int} (h : Smp k x) (h1 : 0 ≤ u) (h2 : u ≤ v) (h3 : 0 < v) (h4 : v < 1000000000) : Smp (k + 2) ((u : Rat) * (v : Rat)⁻¹ * x) := by
  obtain ⟨E, z, e0, e1, e2, e3, e4⟩ := h
  have hv : (0 : Rat) < (v : Rat) := Rat.intCast_pos.2 h3
  have hi := Rat.mul_inv_cancel _ (ic_ne h3)
  have hi0 : (0 : Rat) < (v : Rat)⁻¹ := Rat.inv_pos.2 hv
  have c0 : (0 : Rat) ≤ (u : Rat) := by exact_mod_cast h1
  have c1 : (u : Rat) ≤ (v : Rat) := by exact_mod_cast h2
  have b1 : (u : Rat) * (v : Rat)⁻¹ ≤ 1 := by
    have a := Rat.mul_nonneg (a := (v : Rat) - (u : Rat)) (by grind) (Rat.le_of_lt hi0)
    grind
  have b2 : 0 ≤ (u : Rat) * (v : Rat)⁻¹ := Rat.mul_nonneg c0 (Rat.le_of_lt hi0)
  have b3 := abs_mul1 b1 (by grind) e3 e4
  refine ⟨v * E, u * z, Int.mul_pos h3 e0, ?_, ?_, b3.1, b3.2⟩
  · rw [show (16777216 : Int) ^ (k + 2) = 16777216 ^ 2 * 16777216 ^ k by rw [Int.pow_add, Int.mul_comm]]
    exact mul_lt_B (by omega) e1 (by omega) (by omega)
  · rw [Rat.intCast_mul, Rat.intCast_mul, ← e2]
    grind
theorem smp_add {x y : Rat} {k l : Nat} (h : Smp k x) (h' : Smp l y) (h1 : x + y ≤ 1) (h2 : -1 ≤ x + y) : Smp (k + l) (x + y) := by
  obtain ⟨E, z, e0, e1, e2, e3, e4⟩ := h
  obtain ⟨E', z', e0', e1', e2', e3', e4'⟩ := h'
  refine ⟨E * E', z * E' + z' * E, Int.mul_pos e0 e0', ?_, ?_, h1, h2⟩
  · rw [Int.pow_add]
    exact mul_lt_B e1 e1' (by omega) (by omega)
  · rw [Rat.intCast_mul, Rat.intCast_add, Rat.intCast_mul, Rat.intCast_mul, ← e2, ← e2']
    grind
