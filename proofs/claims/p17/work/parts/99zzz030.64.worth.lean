section
/-! What a command is worth: a sum over its branches. -/
theorem sr_lt {f g : Nat → Rat} : ∀ (n : Nat), (∀ j, j < n → f j ≤ g j) → (∃ j, j < n ∧ f j < g j) → sr f n < sr g n
  | 0, _, h => by obtain ⟨j, h, _⟩ := h; omega
  | n + 1, h, h2 => by
    obtain ⟨j, h3, h4⟩ := h2
    rw [sr, sr]
    by_cases q : j = n
    · subst q
      have a := sr_le j (fun i hi => h i (by omega))
      grind
    · have a := sr_lt n (fun i hi => h i (by omega)) ⟨j, by omega, h4⟩
      have b := h n (by omega)
      grind
/-- the chance of branch b -/
def chq (M : mM) (s b : Nat) : Rat := (mI M (s + 27) b : Rat) * (mI M (s + 28) b : Rat)⁻¹
/-- where the branches of command c begin, how many they are, where branch b leads -/
def bg (M : mM) (s c : Nat) : Nat := (mI M (s + 25) c).toNat
def nb (M : mM) (s c : Nat) : Nat := (mI M (s + 25) (c + 1) - mI M (s + 25) c).toNat
def tg (M : mM) (s b : Nat) : Nat := (mI M (s + 26) b).toNat
def cx (M : mM) (s k i : Nat) : Nat := (mI M (s + 23) k).toNat + i
def cw (M : mM) (s c : Nat) (f : Nat → Rat) : Rat := sr (fun b => chq M s (bg M s c + b) * f (tg M s (bg M s c + b))) (nb M s c)
/-- the chances of each command are sound -/
def GB (M : mM) (s : Nat) : Prop := ∀ c : Nat, (c : Int) < mI M s 2 → (1 ≤ mI M (s + 24) c ∧ mI M (s + 24) c < 1000000000 ∧ nb M s c ≤ 8) ∧ (∀ b, b < nb M s c → 0 < mI M (s + 27) (bg M s c + b) ∧ 0 < mI M (s + 28) (bg M s c + b) ∧ mI M (s + 28) (bg M s c + b) ∣ mI M (s + 24) c) ∧ sm (fun b => mI M (s + 27) (bg M s c + b) * (mI M (s + 24) c / mI M (s + 28) (bg M s c + b))) (nb M s c) = mI M (s + 24) c
/-- nothing of the game has changed -/
def sameG (M M' : mM) (s : Nat) : Prop := mI M' s 1 = mI M s 1 ∧ mI M' s 2 = mI M s 2 ∧ mI M' s 3 = mI M s 3 ∧ ∀ x, s + 22 ≤ x → x ≤ s + 28 → mI M' x = mI M x
theorem sameG.of {S : Nat → Prop} {M M' : mM} {s : Nat} (f : FI S M M') (h0 : ¬ S s) (h1 : ∀ x, s + 22 ≤ x → x ≤ s + 28 → ¬ S x) : sameG M M' s := by
  have f := f.2.2.2.2.2.2
  exact ⟨by rw [f s h0], by rw [f s h0], by rw [f s h0], fun x a b => f x (h1 x a b)⟩
theorem sameG.trans {M M' M'' : mM} {s : Nat} (h : sameG M M' s) (h' : sameG M' M'' s) : sameG M M'' s :=
  ⟨h'.1.trans h.1, h'.2.1.trans h.2.1, h'.2.2.1.trans h.2.2.1, fun x a b => (h'.2.2.2 x a b).trans (h.2.2.2 x a b)⟩
theorem sameG.refl {M : mM} {s : Nat} : sameG M M s := ⟨rfl, rfl, rfl, fun _ _ _ => rfl⟩
section SG
variable {M M' : mM} {s : Nat}
theorem sameG.gw (h : sameG M M' s) (g : GW M s) : GW M' s := by
  unfold GW at g ⊢
  rw [h.1, h.2.1, h.2.2.1, h.2.2.2 (s + 23) (by omega) (by omega), h.2.2.2 (s + 25) (by omega) (by omega), h.2.2.2 (s + 26) (by omega) (by omega)]
  exact g
theorem sameG.hq (h : sameG M M' s) : chq M' s = chq M s := by
  funext b
  unfold chq
  rw [h.2.2.2 (s + 27) (by omega) (by omega), h.2.2.2 (s + 28) (by omega) (by omega)]
theorem sameG.hb (h : sameG M M' s) : bg M' s = bg M s := by
  funext c
  unfold bg
  rw [h.2.2.2 (s + 25) (by omega) (by omega)]
theorem sameG.hn (h : sameG M M' s) : nb M' s = nb M s := by
  funext c
  unfold nb
  rw [h.2.2.2 (s + 25) (by omega) (by omega)]
theorem sameG.ht (h : sameG M M' s) : tg M' s = tg M s := by
  funext c
  unfold tg
  rw [h.2.2.2 (s + 26) (by omega) (by omega)]
theorem sameG.hx (h : sameG M M' s) : cx M' s = cx M s := by
  funext k i
  unfold cx
  rw [h.2.2.2 (s + 23) (by omega) (by omega)]
theorem sameG.hw (h : sameG M M' s) : cw M' s = cw M s := by
  funext c f
  unfold cw
  rw [h.hq, h.hb, h.hn, h.ht]
theorem sameG.gb (h : sameG M M' s) (g : GB M s) : GB M' s := by
  unfold GB at g ⊢
  rw [h.2.1, h.hn, h.hb, h.2.2.2 (s + 24) (by omega) (by omega), h.2.2.2 (s + 27) (by omega) (by omega), h.2.2.2 (s + 28) (by omega) (by omega)]
  exact g
theorem sameG.hm (h : sameG M M' s) : mny M' s = mny M s := by
  funext k
  unfold mny
  rw [h.2.2.2 (s + 23) (by omega) (by omega)]
end SG
section CW
variable {M : mM} {s c : Nat}
theorem GB.chq_pos (h : GB M s) (hc : (c : Int) < mI M s 2) {b : Nat} (hb : b < nb M s c) : 0 < chq M s (bg M s c + b) := by
  obtain ⟨h1, h2, -⟩ := (h c hc).2.1 b hb
  exact Rat.mul_pos (Rat.intCast_pos.2 h1) (Rat.inv_pos.2 (Rat.intCast_pos.2 h2))
theorem GB.chq_int (h : GB M s) (hc : (c : Int) < mI M s 2) {b : Nat} (hb : b < nb M s c) : (mI M (s + 24) c : Rat) * chq M s (bg M s c + b) = ((mI M (s + 27) (bg M s c + b) * (mI M (s + 24) c / mI M (s + 28) (bg M s c + b)) : Int) : Rat) := by
  obtain ⟨h1, h2, h3⟩ := (h c hc).2.1 b hb
  have e := Int.mul_ediv_cancel' h3
  have e2 : (mI M (s + 24) c : Rat) = (mI M (s + 28) (bg M s c + b) : Rat) * ((mI M (s + 24) c / mI M (s + 28) (bg M s c + b) : Int) : Rat) := by rw [← Rat.intCast_mul, e]
  have e3 := Rat.mul_inv_cancel _ (ic_ne h2)
  unfold chq
  rw [Rat.intCast_mul]
  generalize ((mI M (s + 24) c / mI M (s + 28) (bg M s c + b) : Int) : Rat) = z at *
  generalize (mI M (s + 28) (bg M s c + b) : Rat)⁻¹ = w at *
  generalize (mI M (s + 28) (bg M s c + b) : Rat) = v at *
  generalize (mI M (s + 27) (bg M s c + b) : Rat) = y at *
  rw [e2]
  grind
theorem cw_le (h : GB M s) (hc : (c : Int) < mI M s 2) {f g : Nat → Rat} (hf : ∀ b, b < nb M s c → f (tg M s (bg M s c + b)) ≤ g (tg M s (bg M s c + b))) : cw M s c f ≤ cw M s c g := by
  refine sr_le _ (fun b hb => ?_)
  have a := Rat.mul_nonneg (Rat.le_of_lt (h.chq_pos hc hb)) (b := g (tg M s (bg M s c + b)) - f (tg M s (bg M s c + b))) (by have := hf b hb; grind)
  grind
theorem cw_lt (h : GB M s) (hc : (c : Int) < mI M s 2) {f g : Nat → Rat} (hf : ∀ b, b < nb M s c → f (tg M s (bg M s c + b)) ≤ g (tg M s (bg M s c + b))) (hl : ∃ b, b < nb M s c ∧ f (tg M s (bg M s c + b)) < g (tg M s (bg M s c + b))) : cw M s c f < cw M s c g := by
  refine sr_lt _ (fun b hb => ?_) ?_
  · have a := Rat.mul_nonneg (Rat.le_of_lt (h.chq_pos hc hb)) (b := g (tg M s (bg M s c + b)) - f (tg M s (bg M s c + b))) (by have := hf b hb; grind)
    grind
  · obtain ⟨b, hb, hl⟩ := hl
    have a := Rat.mul_pos (h.chq_pos hc hb) (b := g (tg M s (bg M s c + b)) - f (tg M s (bg M s c + b))) (by grind)
    exact ⟨b, hb, by grind⟩
theorem cw_congr {f g : Nat → Rat} (hf : ∀ b, b < nb M s c → f (tg M s (bg M s c + b)) = g (tg M s (bg M s c + b))) : cw M s c f = cw M s c g := by
  refine sr_congr _ (fun b hb => ?_)
  rw [hf b hb]
theorem cw_add {f g : Nat → Rat} : cw M s c (fun k => f k + g k) = cw M s c f + cw M s c g := by
  unfold cw
  rw [← sr_add]
  exact sr_congr _ (fun b hb => by grind)
theorem cw_mul {x : Rat} {f : Nat → Rat} : cw M s c (fun k => x * f k) = x * cw M s c f := by
  unfold cw
  rw [← sr_mul]
  exact sr_congr _ (fun b hb => by grind)
theorem cw_int (h : GB M s) (hc : (c : Int) < mI M s 2) {f : Nat → Int} : (mI M (s + 24) c : Rat) * cw M s c (fun k => (f k : Rat)) = ((sm (fun b => mI M (s + 27) (bg M s c + b) * (mI M (s + 24) c / mI M (s + 28) (bg M s c + b)) * f (tg M s (bg M s c + b))) (nb M s c) : Int) : Rat) := by
  unfold cw
  rw [sm_cast, ← sr_mul]
  refine sr_congr _ (fun b hb => ?_)
  have e := h.chq_int hc hb
  rw [Rat.intCast_mul, ← e]
  grind
theorem cw_one (h : GB M s) (hc : (c : Int) < mI M s 2) : cw M s c (fun _ => 1) = 1 := by
  have e := cw_int h hc (f := fun _ => 1)
  have e2 : sm (fun b => mI M (s + 27) (bg M s c + b) * (mI M (s + 24) c / mI M (s + 28) (bg M s c + b)) * 1) (nb M s c) = mI M (s + 24) c := by
    rw [sm_congr (g := fun b => mI M (s + 27) (bg M s c + b) * (mI M (s + 24) c / mI M (s + 28) (bg M s c + b))) _ (fun b hb => by omega)]
    exact (h c hc).2.2
  have e1 : cw M s c (fun _ => 1) = cw M s c (fun k => (((fun _ => 1) k : Int) : Rat)) := rfl
  rw [e2] at e
  rw [e1]
  have hp := (h c hc).1.1
  have e3 := Rat.inv_mul_cancel _ (ic_ne (x := mI M (s + 24) c) (by omega))
  generalize (mI M (s + 24) c : Rat) = v at *
  generalize cw M s c (fun k => (((fun _ => 1) k : Int) : Rat)) = w at *
  have e4 : v⁻¹ * (v * w) = v⁻¹ * v := by rw [e]
  grind
theorem cw_const (h : GB M s) (hc : (c : Int) < mI M s 2) {x : Rat} : cw M s c (fun _ => x) = x := by
  have e := cw_mul (M := M) (s := s) (c := c) (x := x) (f := fun _ => 1)
  rw [cw_one h hc] at e
  have e1 : cw M s c (fun _ => x) = cw M s c (fun _ => x * 1) := cw_congr (fun b hb => by grind)
  rw [e1, e]
  grind
end CW
/-- a value that k parts hold -/
def Smp (k : Nat) (x : Rat) : Prop := ∃ E z : Int, 0 < E ∧ E < 16777216 ^ k ∧ x * (E : Rat) = (z : Rat) ∧ x ≤ 1 ∧ -1 ≤ x
theorem smp_size {M : mM} {f r k : Nat} (hF : Fq M f r) (hC : Fc M f) (h : Smp k (fv M f)) : mI M (f + 1) 1 ≤ k ∧ mI M (f + 3) 1 ≤ k := by
  obtain ⟨E, z, h0, h1, h2, h3, h4⟩ := h
  have b := fv_abs hF h3 h4
  exact fc_size hF hC h2 h0 h1 b.1 b.2
theorem smp_fq {M : mM} {f : Nat} (hF : Fq M f 56) (h1 : fv M f ≤ 1) (h2 : -1 ≤ fv M f) : Smp 56 (fv M f) := by
  have p : 0 < sd M f := hF.2.2.2.2
  refine ⟨sd M f, sn M f, p, ?_, fv_sd hF, h1, h2⟩
  exact Int.lt_of_lt_of_le hF.2.2.1.lt (pow_mono (by have := hF.2.2.1.1.2.2.2.2.2.2; omega))
theorem smp_mul {x : Rat} {k : Nat} {u v : Int} (h : Smp k x) (h1 : 0 ≤ u) (h2 : u ≤ v) (h3 : 0 < v) (h4 : v < 1000000000) : Smp (k + 2) ((u : Rat) * (v : Rat)⁻¹ * x) := by
  obtain ⟨E, z, e0, e1, e2, e3, e4⟩ := h
  have hv : (0 : Rat) < (v : Rat) := Rat.intCast_pos.2 h3
  have hi := Rat.mul_inv_cancel _ (ic_ne h3)
  have hi0 : (0 : Rat) < (v : Rat)⁻¹ := Rat.inv_pos.2 hv
  have c0 : (0 : Rat) ≤ (u : Rat) := by exact_mod_cast h1
  have c1 : (u : Rat) ≤ (v : Rat) := by exact_mod_cast h2
  have b1 : (u : Rat) * (v : Rat)⁻¹ ≤ 1 := by
    have a := Rat.mul_nonneg (a := (v : Rat) - (u : Rat)) (by grind) (Rat.le_of_lt hi0)
    grind
  have b2 : 0 ≤ (u : Rat) * (v : Rat)⁻¹ := Rat.mul_nonneg c0 (Rat.le_of_lt hi0)
  have b3 := abs_mul1 b1 (by grind) e3 e4
  refine ⟨v * E, u * z, Int.mul_pos h3 e0, ?_, ?_, b3.1, b3.2⟩
  · rw [show (16777216 : Int) ^ (k + 2) = 16777216 ^ 2 * 16777216 ^ k by rw [Int.pow_add, Int.mul_comm]]
    exact mul_lt_B (by omega) e1 (by omega) (by omega)
  · rw [Rat.intCast_mul, Rat.intCast_mul, ← e2]
    grind
theorem smp_add {x y : Rat} {k l : Nat} (h : Smp k x) (h' : Smp l y) (h1 : x + y ≤ 1) (h2 : -1 ≤ x + y) : Smp (k + l) (x + y) := by
  obtain ⟨E, z, e0, e1, e2, e3, e4⟩ := h
  obtain ⟨E', z', e0', e1', e2', e3', e4'⟩ := h'
  refine ⟨E * E', z * E' + z' * E, Int.mul_pos e0 e0', ?_, ?_, h1, h2⟩
  · rw [Int.pow_add]
    exact mul_lt_B e1 e1' (by omega) (by omega)
  · rw [Rat.intCast_mul, Rat.intCast_add, Rat.intCast_mul, Rat.intCast_mul, ← e2, ← e2']
    grind
end
section
/-! The solver: what a command is worth. -/
theorem sr_part {f : Nat → Rat} {a : Nat} : ∀ (n : Nat), (∀ c, c < a + n → 0 ≤ f c) → sr f a ≤ sr f (a + n)
  | 0, _ => Rat.le_refl
  | n + 1, h => by
    have h1 := sr_part (f := f) (a := a) n (fun c hc => h c (by omega))
    have h2 := h (a + n) (by omega)
    have e : sr f (a + (n + 1)) = sr f (a + n) + f (a + n) := rfl
    grind
theorem fc_one {M : mM} {f r : Nat} (hF : Fq M f r) (h1 : sd M f = 1) (h2 : sn M f = 0 → mI M f 2 = 0) : Fc M f := by
  have e4 : xn M (f + 3) = 1 := by
    have : sd M f = wv M (f + 3) := rfl
    unfold xn
    omega
  refine ⟨by rw [e4]; exact Nat.gcd_one_right _, fun q => h2 ?_⟩
  unfold sn
  rw [q]
  split <;> rfl
theorem alg_ud {U V y : Rat} (q : V * y = 1) (w : 0 ≤ (1 - U * y) * V) : U ≤ V := by
  have e : (1 - U * y) * V = V - U * (V * y) := by grind
  rw [e, q] at w
  grind
theorem ud_le {u v : Int} (h : 0 < v) (h2 : (u : Rat) * (v : Rat)⁻¹ ≤ 1) : u ≤ v := by
  have p : (0 : Rat) < (v : Rat) := Rat.intCast_pos.2 h
  have q := Rat.mul_inv_cancel _ (ic_ne h)
  have w := Rat.mul_nonneg (a := 1 - (u : Rat) * (v : Rat)⁻¹) (by grind) (Rat.le_of_lt p)
  exact ic_le (alg_ud q w)
/-- n fractions hold x -/
def Xt (M : mM) (s e n : Nat) (x : Nat → Rat) : Prop := ∀ k, k < n → Fq M (s + e + 25 * k) 56 ∧ Fc M (s + e + 25 * k) ∧ fv M (s + e + 25 * k) = x k
theorem Xt.out {S : Nat → Prop} {M M' : mM} {s e n : Nat} {x : Nat → Rat} (h : Xt M s e n x) (k : FI S M M') (hs : ∀ y, S y → y < s + e ∨ s + e + 25 * n ≤ y) : Xt M' s e n x := by
  intro i hi
  obtain ⟨h1, h2, h3⟩ := h i hi
  have hs' : ∀ y, S y → y < s + e + 25 * i ∨ s + e + 25 * i + 4 < y := fun y q => by have := hs y q; omega
  exact ⟨(h1.out k hs').1, h2.out h1 k hs', by rw [fv_out h1 k hs', h3]⟩
abbrev wS (s : Nat) : Nat → Prop := fun x => (s + 2 ≤ x ∧ x ≤ s + 21) ∨ (s + 42 ≤ x ∧ x ≤ s + 46) ∨ (s + 52 ≤ x ∧ x ≤ s + 61)
theorem Wk.far {S : Nat → Prop} {M M' : mM} {s : Nat} (h : Wk M s) (k : FI S M M') (hs : ∀ x, S x → s + 22 ≤ x ∧ x < s + 42 ∨ s + 66 < x ∨ x ≤ s) : Wk M' s :=
  h.out k (h.1.far k (fun x q => by have := hs x q; omega)) (fun x q => by have := hs x q; omega)
/-- one of the solver's fractions is written -/
theorem Wk.put {M M' : mM} {s a r : Nat} (h : Wk M s) (k : FI (fS a) M M') (hf : Ft M' a r) (ha : (a = s + 42 ∧ r = 8) ∨ (a = s + 47 ∧ r = 56) ∨ ((a = s + 52 ∨ a = s + 57 ∨ a = s + 62) ∧ r = 900)) : Wk M' s := by
  have hk : ∀ y, fS a y → a ≤ y ∧ y ≤ a + 4 := fun y q => q
  have h0 := h.1.far k (fun x q => by have := hk x q; omega)
  obtain ⟨-, h1, h2, h3, h4, h5⟩ := h
  rcases ha with ⟨ha, hr⟩ | ⟨ha, hr⟩ | ⟨ha | ha | ha, hr⟩ <;> subst ha hr
  · exact ⟨h0, hf, h2.out k (fun x q => by have := hk x q; omega), h3.out k (fun x q => by have := hk x q; omega), h4.out k (fun x q => by have := hk x q; omega), h5.out k (fun x q => by have := hk x q; omega)⟩
  · exact ⟨h0, h1.out k (fun x q => by have := hk x q; omega), hf, h3.out k (fun x q => by have := hk x q; omega), h4.out k (fun x q => by have := hk x q; omega), h5.out k (fun x q => by have := hk x q; omega)⟩
  · exact ⟨h0, h1.out k (fun x q => by have := hk x q; omega), h2.out k (fun x q => by have := hk x q; omega), hf, h4.out k (fun x q => by have := hk x q; omega), h5.out k (fun x q => by have := hk x q; omega)⟩
  · exact ⟨h0, h1.out k (fun x q => by have := hk x q; omega), h2.out k (fun x q => by have := hk x q; omega), h3.out k (fun x q => by have := hk x q; omega), hf, h5.out k (fun x q => by have := hk x q; omega)⟩
  · exact ⟨h0, h1.out k (fun x q => by have := hk x q; omega), h2.out k (fun x q => by have := hk x q; omega), h3.out k (fun x q => by have := hk x q; omega), h4.out k (fun x q => by have := hk x q; omega), hf⟩
/-- what worthOf leaves behind -/
def woG (p : Nat) (M : mM) (s c : Nat) (x : Nat → Rat) (M' : mM) : Prop := mOk M' ∧ FI (wS s) M M' ∧ Wk M' s ∧ Fq M' (s + 52) 900 ∧ Fc M' (s + 52) ∧ fv M' (s + 52) = cw M s c x ∧ Smp ((p + 2) * 8 + 1) (cw M s c x)
abbrev woQ (M : mM) (s c : Nat) (x : Nat → Rat) : mM → Prop := woG 56 M s c x
section VS
variable {G : mG} {d s n : Nat} {M : mM} {x : Nat → Rat}
theorem s_worthG {k i B st e p : Nat} (hp : p ≤ 56) (hxs : ∀ t, t < n → Smp p (x t)) (hB : (B = s + 38 ∧ st = 1 ∧ e = 88) ∨ (B = s + 29 ∧ st = 3 ∧ e = 68)) (hO : mOk M) (hV : Vk M s) (hG : GW M s) (hC : GB M s) (hn : mI M s 1 = n) (hk : (k : Int) < mI M s 1) (hi : (i : Int) < mny M s k) (hW : Wk M s) (hX : Xt M s e n x) (h01 : ∀ t, t < n → 0 ≤ x t ∧ x t ≤ 1) :
    Cv G y_MS_worthOf (d + 5) [vr s, vi k, vi i, vr B, vi 0, vi st] M (woG p M s (cx M s k i) x) := by
  have hc := hG.cmd hk
  have hi' := hi
  unfold mny at hi'
  have hcx : (cx M s k i : Int) = mI M (s + 23) k + i := by unfold cx; omega
  have hc2 : (cx M s k i : Int) < mI M s 2 := by omega
  have hb := hG.brn hc2
  have h2 := hG.2.1
  have h3 := hG.2.2.1
  have h4 := hG.2.2.2.1
  have ht := hG.2.2.2.2.2.2.2.2.2.2
  have ebg : (bg M s (cx M s k i) : Int) = mI M (s + 25) (cx M s k i) := by unfold bg; omega
  have enb : (nb M s (cx M s k i) : Int) = mI M (s + 25) (cx M s k i + 1) - mI M (s + 25) (cx M s k i) := by unfold nb; omega
  have hn8 := (hC _ hc2).1.2.2
  have hm := (hC _ hc2).1.2.1
  have hm1 := (hC _ hc2).1.1
  have hbr := (hC _ hc2).2.1
  generalize hcc : cx M s k i = c at *
  have htg : ∀ b, b < nb M s c → tg M s (bg M s c + b) < n ∧ (tg M s (bg M s c + b) : Int) = mI M (s + 26) (bg M s c + b) := fun b hb => by
    have := ht (bg M s c + b) (by omega)
    unfold tg
    omega
  have hle : cw M s c x ≤ 1 := by
    have a := cw_le hC hc2 (f := x) (g := fun _ => 1) (fun b hb => (h01 _ (htg b hb).1).2)
    rw [cw_one hC hc2] at a
    exact a
  have hnn : ∀ b, b < nb M s c → 0 ≤ chq M s (bg M s c + b) * x (tg M s (bg M s c + b)) := fun b hb => Rat.mul_nonneg (Rat.le_of_lt (hC.chq_pos hc2 hb)) (h01 _ (htg b hb).1).1
  have hpart : ∀ b, b ≤ nb M s c → 0 ≤ sr (fun b => chq M s (bg M s c + b) * x (tg M s (bg M s c + b))) b ∧ sr (fun b => chq M s (bg M s c + b) * x (tg M s (bg M s c + b))) b ≤ 1 := fun b hb => by
    refine ⟨sr_nonneg b (fun j hj => hnn j (by omega)), ?_⟩
    have a := sr_part (f := fun b => chq M s (bg M s c + b) * x (tg M s (bg M s c + b))) (a := b) (nb M s c - b) (fun j hj => hnn j (by omega))
    rw [show b + (nb M s c - b) = nb M s c by first | rfl | omega] at a
    exact Rat.le_trans a hle
  refine k_MS_worthOf hO ⟨by omega, by omega⟩ ⟨by omega, by omega⟩ ⟨by omega, by omega⟩ ⟨by omega, by omega⟩ ?_
  rw [hV.r5, hV.n23, hV.r28, Int.toNat_natCast, ← hcx]
  refine ⟨hV.k0, hV.k23, by omega, hW.2.2.2.1.1.1, (s_MF_set ⟨by omega, by omega⟩ (by omega) ⟨by omega, by omega⟩ (by omega) hO hW.2.2.2.1 (by omega)).mono (fun M1 h1 => ?_)⟩
  obtain ⟨o1, f1, F1, v1, v2, v3⟩ := h1
  have f1' : FI (wS s) M M1 := f1.mono (fun y q => by have : s + 52 ≤ y ∧ y ≤ s + 52 + 4 := q; omega)
  have V1 := hV.fi f1
  have G1 : sameG M M1 s := sameG.of f1' (by omega) (fun y _ _ => by omega)
  have W1 : Wk M1 s := hW.put f1 F1.ft (by omega)
  have C1 := fc_one F1 v2 (fun _ => v3 rfl)
  have e1 : fv M1 (s + 52) = 0 := by
    rw [fv_set v1 v2]
    have : ((0 : Int) : Rat) = 0 := rfl
    grind
  rw [V1.r7, V1.n25, Int.toNat_natCast, G1.2.2.2 (s + 25) (by omega) (by omega)]
  refine ⟨o1, V1.k0, V1.k25, by omega, ?_⟩
  have X1 := hX.out f1' (fun y q => by omega)
  suffices H : ∀ (r b : Nat) (M2 : mM), b + r = nb M s c → mOk M2 → FI (wS s) M M2 → Wk M2 s → Fq M2 (s + 52) 900 → Fc M2 (s + 52) → fv M2 (s + 52) = sr (fun b => chq M s (bg M s c + b) * x (tg M s (bg M s c + b))) b → Smp ((p + 2) * b + 1) (fv M2 (s + 52)) → h_MS_worthOf_28 G (d + 4) s B 0 st c (mI M (s + 25) c + b) M2 (woG p M s c x) by
    have a := H (nb M s c) 0 M1 (by omega) o1 f1' W1 F1 C1 e1 ⟨1, 0, by omega, by rw [Nat.mul_zero]; decide, by rw [e1]; grind, by rw [e1]; decide, by rw [e1]; decide⟩
    rw [show mI M (s + 25) c + ((0 : Nat) : Int) = mI M (s + 25) c by first | rfl | omega] at a
    exact a
  clear e1 C1 W1 G1 V1 f1' v3 v2 v1 F1 f1 o1 X1 M1
  intro r
  induction r with
  | zero =>
    intro b M2 hr o2 f2 W2 F2 C2 e2 S2
    have V2 := hV.fi f2
    have G2 : sameG M M2 s := sameG.of f2 (by omega) (fun y _ _ => by omega)
    have eb : b = nb M s c := by omega
    subst eb
    refine k_MS_worthOf_28 o2 ⟨by omega, by omega⟩ ⟨by omega, by omega⟩ ⟨by omega, by omega⟩ ⟨by omega, by omega⟩ ?_
    rw [V2.r7, V2.n25, G2.2.2.2 (s + 25) (by omega) (by omega), show ((c : Int) + 1).toNat = c + 1 by first | rfl | omega]
    refine ⟨V2.k0, V2.k25, by omega, fun _ => ⟨o2, f2, W2, F2, C2, e2, ?_⟩, fun q => by omega⟩
    have e3 : fv M2 (s + 52) = cw M s c x := e2
    rw [e3] at S2
    obtain ⟨E, z, a0, a1, a2⟩ := S2
    exact ⟨E, z, a0, Int.lt_of_lt_of_le a1 (pow_mono (Nat.add_le_add_right (Nat.mul_le_mul_left _ hn8) 1)), a2⟩
  | succ r ih =>
    intro b M2 hr o2 f2 W2 F2 C2 e2 S2
    have hbn : b < nb M s c := by omega
    have V2 := hV.fi f2
    have G2 : sameG M M2 s := sameG.of f2 (by omega) (fun y _ _ => by omega)
    have X2 := hX.out f2 (fun y q => by omega)
    obtain ⟨u0, u1, u2⟩ := hbr b hbn
    have u3 : mI M (s + 28) (bg M s c + b) ≤ mI M (s + 24) c := Int.le_of_dvd (by omega) u2
    have u4 : mI M (s + 27) (bg M s c + b) ≤ mI M (s + 28) (bg M s c + b) := by
      have a := sr_one (f := fun b => chq M s (bg M s c + b) * (fun _ => 1) (tg M s (bg M s c + b))) (nb M s c) hbn (fun j hj => Rat.mul_nonneg (Rat.le_of_lt (hC.chq_pos hc2 hj)) (by grind))
      have a1 := cw_one hC hc2
      unfold cw at a1
      rw [a1] at a
      have a2 : chq M s (bg M s c + b) ≤ 1 := by
        have a3 : chq M s (bg M s c + b) * 1 ≤ 1 := a
        rw [Rat.mul_one] at a3
        exact a3
      exact ud_le u1 a2
    have ebb : (mI M (s + 25) c + (b : Int)).toNat = bg M s c + b := by omega
    obtain ⟨t1, t2⟩ := htg b hbn
    refine k_MS_worthOf_28 o2 ⟨by omega, by omega⟩ ⟨by omega, by omega⟩ ⟨by omega, by omega⟩ ⟨by omega, by omega⟩ ?_
    rw [V2.r7, V2.r9, V2.r10, V2.r26, V2.n25, V2.n27, V2.n28, G2.2.2.2 (s + 25) (by omega) (by omega), G2.2.2.2 (s + 27) (by omega) (by omega), G2.2.2.2 (s + 28) (by omega) (by omega), show ((c : Int) + 1).toNat = c + 1 by first | rfl | omega, ebb]
    refine ⟨V2.k0, V2.k25, by omega, fun q => by omega, fun _ => ⟨V2.k27, by omega, V2.k28, by omega, W2.2.1.1.1, (s_MF_set ⟨by omega, by omega⟩ (by omega) ⟨by omega, by omega⟩ (by omega) o2 W2.2.1 (by omega)).mono (fun M3 h3 => ?_)⟩⟩
    obtain ⟨o3, f3, F3, v1, v2, -⟩ := h3
    have f3' : FI (wS s) M2 M3 := f3.mono (fun y q => by have : s + 42 ≤ y ∧ y ≤ s + 42 + 4 := q; omega)
    have V3 := V2.fi f3
    have G3 : sameG M M3 s := sameG.of (f2.trans f3') (by omega) (fun y _ _ => by omega)
    have W3' : Wk M3 s := W2.put f3 F3.ft (by omega)
    have X3 := X2.out f3' (fun y q => by omega)
    have x3 := X3 _ t1
    have hBk : mK M3 B = 36 ∧ ((0 : Int) ≤ (st : Int) * mI M (s + 26) (bg M s c + b) + 0 ∧ (st : Int) * mI M (s + 26) (bg M s c + b) + 0 < (mN M3 B : Int)) ∧ mR M3 B ((st : Int) * mI M (s + 26) (bg M s c + b) + 0).toNat = s + e + 25 * tg M s (bg M s c + b) := by
      rw [← t2]
      rcases hB with ⟨b1, b2, b3⟩ | ⟨b1, b2, b3⟩ <;> subst b1 b2 b3
      · rw [show ((((1 : Nat) : Int)) * (tg M s (bg M s c + b) : Int) + 0).toNat = tg M s (bg M s c + b) by first | rfl | omega, V3.f38 _ (by omega), V3.n38]
        exact ⟨V3.k38, by omega, rfl⟩
      · rw [show ((((3 : Nat) : Int)) * (tg M s (bg M s c + b) : Int) + 0).toNat = 3 * tg M s (bg M s c + b) + 0 by first | rfl | omega, V3.f29 _ 0 (by omega) (by omega), V3.n29]
        exact ⟨V3.k29, by omega, by omega⟩
    rw [V3.r8, V3.r0, V3.r26, V3.n26, G3.2.2.2 (s + 26) (by omega) (by omega), hBk.2.2]
    have z1 := F3.2.1.1.2.2.2.2.2.2
    have z2 := F3.2.2.1.1.2.2.2.2.2.2
    have z3 := x3.1.2.1.1.2.2.2.2.2.2
    have z4 := x3.1.2.2.1.1.2.2.2.2.2.2
    refine ⟨o3, V3.k0, V3.k26, by omega, hBk.1, hBk.2.1, W3'.1.1.1, (s_MU_multiply (d := d) o3 W3'.1 F3 x3.1 (by unfold suO; omega) (by unfold suO; omega) (by omega) (by omega)).mono (fun M4 h4 => ?_)⟩
    have v4 := fv_mul F3 x3.1 h4
    rw [x3.2.2, fv_set v1 v2] at v4
    have hs4 : Smp (p + 2) (fv M4 (s + 1 + 1)) := by
      rw [v4]
      exact smp_mul (hxs _ t1) (by omega) (by omega) (by omega) (by omega)
    have hpb : (p + 2) * b ≤ 464 := Nat.le_trans (Nat.mul_le_mul_left _ (show b ≤ 8 by omega)) (by omega)
    have hpb1 : (p + 2) * (b + 1) = (p + 2) * b + (p + 2) := Nat.mul_succ _ _
    obtain ⟨o4, f4, Z4, F4, C4, -⟩ := h4
    have f4' : FI (fun y => s + 2 ≤ y ∧ y ≤ s + 21) M3 M4 := f4.mono (fun y q => by omega)
    have V4 := V3.fi f4
    have W4 : Wk M4 s := W3'.out f4' Z4 (fun y q => by omega)
    have sz4 := smp_size F4 C4 hs4
    rw [V4.r0, V4.r29, Z4.1.2.1]
    refine ⟨o4, V4.k0, Z4.1.1, W4.2.2.2.2.1.1.1, (s_MF_copy o4 W4.2.2.2.2.1 F4 (by omega) (by omega) (by omega)).mono (fun M5 h5 => ?_)⟩
    obtain ⟨o5, f5, F5, w4, w5, w6⟩ := h5
    have f5' : FI (fun y => s + 57 ≤ y ∧ y ≤ s + 61) M4 M5 := f5.mono (fun y q => by have : s + 57 ≤ y ∧ y ≤ s + 57 + 4 := q; omega)
    have C5 := fc_copy C4 w4 w5 w6
    have V5 := V4.fi f5
    have W5 : Wk M5 s := W4.put f5 F5.ft (by omega)
    have k52 : ∀ y, fS (s + 42) y → y < s + 52 ∨ s + 52 + 4 < y := fun y q => by have : s + 42 ≤ y ∧ y ≤ s + 42 + 4 := q; omega
    have a1 := F2.out f3 k52
    have a2 := C2.out F2 f3 k52
    have a3 := fv_out F2 f3 k52
    have b1 := a1.1.out f4' (fun y q => by omega)
    have b2 := a2.out a1.1 f4' (fun y q => by omega)
    have b3 := fv_out a1.1 f4' (fun y q => by omega)
    have c1 := b1.1.out f5' (fun y q => by omega)
    have c2 := b2.out b1.1 f5' (fun y q => by omega)
    have c3 := fv_out b1.1 f5' (fun y q => by omega)
    have e5 : fv M5 (s + 52) = fv M2 (s + 52) := by rw [c3, b3, a3]
    rw [← e5] at S2 e2
    have sz5 := smp_size c1.1 c2 S2
    have sz6 := smp_size F5 C5.1 (by rw [C5.2]; exact hs4)
    rw [V5.r0, V5.r28, V5.r29]
    refine ⟨o5, V5.k0, W5.1.1.1, (s_MU_add (d := d) (Or.inl rfl) o5 W5.1 c1.1 F5 (by unfold suO; omega) (by unfold suO; omega) (by omega) (by omega) (by omega)).mono (fun M6 h6 => ?_)⟩
    have v6 := fv_add (Or.inl rfl) c1.1 F5 h6
    rw [if_neg (by omega), C5.2, v4] at v6
    have hv6 : fv M6 (s + 1 + 1) = sr (fun b => chq M s (bg M s c + b) * x (tg M s (bg M s c + b))) (b + 1) := by
      rw [v6, e2, sr]
      rfl
    have hs6 : Smp ((p + 2) * (b + 1) + 1) (fv M6 (s + 1 + 1)) := by
      have a := hpart (b + 1) (by omega)
      have b' := smp_add S2 (by rw [v4] at hs4; exact hs4) (by rw [← v6, hv6]; exact a.2) (by rw [← v6, hv6]; grind)
      rw [v6]
      obtain ⟨E, z, q0, q1, q2⟩ := b'
      exact ⟨E, z, q0, Int.lt_of_lt_of_le q1 (pow_mono (by omega)), q2⟩
    obtain ⟨o6, f6, Z6, F6, C6, -⟩ := h6
    have f6' : FI (fun y => s + 2 ≤ y ∧ y ≤ s + 21) M5 M6 := f6.mono (fun y q => by omega)
    have V6 := V5.fi f6
    have W6 : Wk M6 s := W5.out f6' Z6 (fun y q => by omega)
    have sz7 := smp_size F6 C6 hs6
    rw [V6.r0, V6.r28, Z6.1.2.1]
    refine ⟨o6, V6.k0, Z6.1.1, W6.2.2.2.1.1.1, (s_MF_copy o6 W6.2.2.2.1 F6 (by omega) (by omega) (by omega)).mono (fun M7 h7 => ?_)⟩
    obtain ⟨o7, f7, F7, y4, y5, y6⟩ := h7
    have f7' : FI (fun y => s + 52 ≤ y ∧ y ≤ s + 56) M6 M7 := f7.mono (fun y q => by have : s + 52 ≤ y ∧ y ≤ s + 52 + 4 := q; omega)
    have C7 := fc_copy C6 y4 y5 y6
    have ff : FI (wS s) M2 M7 := (((f3'.trans (f4'.mono (fun y q => by omega))).trans (f5'.mono (fun y q => by omega))).trans (f6'.mono (fun y q => by omega))).trans (f7'.mono (fun y q => by omega))
    have hlast := ih (b + 1) M7 (by omega) o7 (f2.trans ff) (W6.put f7 F7.ft (by omega)) F7 C7.1 (by rw [C7.2, hv6]) (by rw [C7.2]; exact hs6)
    rw [show mI M (s + 25) c + ((b + 1 : Nat) : Int) = mI M (s + 25) c + (b : Int) + 1 by first | rfl | omega] at hlast
    exact ⟨o7, hlast⟩
theorem s_MS_worthOf {k i B st e : Nat} (hB : (B = s + 38 ∧ st = 1 ∧ e = 88) ∨ (B = s + 29 ∧ st = 3 ∧ e = 68)) (hO : mOk M) (hV : Vk M s) (hG : GW M s) (hC : GB M s) (hn : mI M s 1 = n) (hk : (k : Int) < mI M s 1) (hi : (i : Int) < mny M s k) (hW : Wk M s) (hX : Xt M s e n x) (h01 : ∀ t, t < n → 0 ≤ x t ∧ x t ≤ 1) :
    Cv G y_MS_worthOf (d + 5) [vr s, vi k, vi i, vr B, vi 0, vi st] M (woQ M s (cx M s k i) x) := by
  refine s_worthG (p := 56) (by omega) (fun t ht => ?_) hB hO hV hG hC hn hk hi hW hX h01
  obtain ⟨x1, x2, x3⟩ := hX t ht
  have a := h01 t ht
  have b := smp_fq x1 (by rw [x3]; exact a.2) (by rw [x3]; grind)
  rw [x3] at b
  exact b
end VS
end
section
/-! The reference's look answers what the least closed set says. -/
section RSV
variable {T : xt9} {J : Nat → Prop} {x : Int × List sc9} {k s : Nat} {M M' : mM} {r : Int}
/-- the solver's tables are those of T -/
def SvT (M : mM) (s : Nat) (T : xt9) : Prop := mI M s 1 = ((T.length : Nat) : Int) ∧ ∀ (k : Nat) (x : Int × List sc9), T[k]? = some x → mI M (s + 22) k = x.1 ∧ mny M s k = ((x.2.length : Nat) : Int) ∧ ∀ (i : Nat) (c : sc9), x.2[i]? = some c → mI M (s + 24) ((mI M (s + 23) k).toNat + i) = c.2.1 ∧ (∀ J : Nat → Prop, leadQ J M s k i ↔ ldA9 J c) ∧ (∀ b, b ∈ c.2.2 → b.1 < T.length) ∧ ∀ f : Nat → Rat, cw M s (cx M s k i) f = wr9 f c
theorem SvT.sv (h : SvT M s T) (e1 : mI M' s 1 = mI M s 1) (e : ∀ i, 22 ≤ i → i ≤ 28 → mI M' (s + i) = mI M (s + i)) : SvT M' s T := by
  refine ⟨by rw [e1]; exact h.1, fun k x hx => ?_⟩
  obtain ⟨h1, h2, h3⟩ := h.2 k x hx
  have ew : ∀ (c : Nat) (f : Nat → Rat), cw M' s c f = cw M s c f := fun c f => by
    unfold cw chq bg nb tg
    rw [e 25 (by decide) (by decide), e 26 (by decide) (by decide), e 27 (by decide) (by decide), e 28 (by decide) (by decide)]
  have ex : cx M' s = cx M s := by
    funext a b
    unfold cx
    rw [e 23 (by decide) (by decide)]
  unfold mny leadQ at *
  rw [e 22 (by decide) (by decide), e 23 (by decide) (by decide), e 24 (by decide) (by decide), e 25 (by decide) (by decide), e 26 (by decide) (by decide)]
  refine ⟨h1, h2, fun i c hc => ?_⟩
  obtain ⟨g1, g2, g3, g4⟩ := h3 i c hc
  exact ⟨g1, g2, g3, fun f => by rw [ew, ex]; exact g4 f⟩
theorem lt_some {α : Type} {l : List α} {i : Nat} {a : α} (h : l[i]? = some a) : i < l.length := (List.getElem?_eq_some_iff.mp h).1
theorem co_iff (h : SvT M s T) (k0 : mI M s 17 = 0) (hx : T[k]? = some x) : comesQ J M s k 0 ↔ coA9 J x := by
  obtain ⟨a1, a2, a3⟩ := h.2 k x hx
  have use : x.1 ≠ 0 → ∀ i, useP M s k i 0 := fun n i => Or.inl ⟨Or.inr rfl, Or.inl (by rw [k0, a1]; exact fun u => n u.symm)⟩
  unfold comesQ coA9
  rw [a1, a2]
  constructor
  · intro u
    rcases u with ⟨u1, i, u2, -, u3⟩ | ⟨u1, u2, u3⟩
    · have hi := List.getElem?_eq_getElem (l := x.2) (i := i) (by omega)
      exact Or.inl ⟨u1, _, List.mem_of_getElem? hi, ((a3 i _ hi).2.1 J).mp u3⟩
    · refine Or.inr ⟨u1, fun e => by rw [e] at u2; exact absurd u2 (by decide), fun c hc => ?_⟩
      obtain ⟨i, hi⟩ := List.getElem?_of_mem hc
      have lt := lt_some hi
      exact ((a3 i c hi).2.1 J).mp (u3 i (by omega) (use (by rw [u1]; decide) i))
  · intro u
    rcases u with ⟨u1, c, hc, u2⟩ | ⟨u1, u2, u3⟩
    · obtain ⟨i, hi⟩ := List.getElem?_of_mem hc
      have lt := lt_some hi
      exact Or.inl ⟨u1, i, by omega, use (by rw [u1]; decide) i, ((a3 i c hi).2.1 J).mpr u2⟩
    · refine Or.inr ⟨u1, ?_, fun i hi _ => ?_⟩
      · have : x.2.length ≠ 0 := fun e => u2 (List.length_eq_zero_iff.mp e)
        omega
      · have g := List.getElem?_eq_getElem (l := x.2) (i := i) (by omega)
        exact ((a3 i _ g).2.1 J).mpr (u3 _ (List.mem_of_getElem? g))
theorem ref_sv (hS : SvT M s T) (hG : GW M s) (k0 : mI M s 17 = 0) (hk : ∀ (k : Nat) (x : Int × List sc9), T[k]? = some x → x.1 = 0 → x.2 = []) (hg : gvQ M s 0 M') (hl : lokX M' s r) : svA9 T r := by
  obtain ⟨⟨ρ, t, o, f, g3⟩, g4⟩ := hg
  obtain ⟨e, w, hw, hr⟩ := hl
  have nS : ∀ y, y ≠ s + 36 → mI M' y = mI M y := fun y hy => f.2.2.2.2.2.2 y hy
  have es : mI M' s = mI M s := nS s (by omega)
  have e22 : mI M' (s + 22) = mI M (s + 22) := nS _ (by omega)
  have e23 : mI M' (s + 23) = mI M (s + 23) := nS _ (by omega)
  have e24 : mI M' (s + 24) = mI M (s + 24) := nS _ (by omega)
  have e32 : mI M' (s + 32) = mI M (s + 32) := nS _ (by omega)
  have len : (mI M' s 1).toNat = T.length := by rw [es, hS.1]; exact Int.toNat_natCast _
  rw [len] at hr
  have lt : ∀ (k : Nat) (x : Int × List sc9), T[k]? = some x → (k : Int) < mI M s 1 := fun k x hx => by
    have := lt_some hx
    rw [hS.1]
    omega
  have at9 : ∀ k : Nat, (k : Int) < mI M s 1 → ∃ x, T[k]? = some x := fun k hk => ⟨_, List.getElem?_eq_getElem (by rw [hS.1] at hk; omega)⟩
  have L : lsA9 T (fun k => (k : Int) < mI M s 1 ∧ mI M' (s + 36) k = 1) := by
    refine ⟨fun k x hx u => ⟨lt k x hx, ?_⟩, fun J' hc => rk_in ρ (fun k hJ => ?_) hc⟩
    · obtain ⟨b1, b2, b3⟩ := g3 k (lt k x hx)
      rcases b1 with y | y
      · exfalso
        rcases u with u | u
        · have := b2 (by rw [(hS.2 k x hx).1]; exact u)
          omega
        · refine g4 k (lt k x hx) y ((co_iff hS k0 hx).mpr (u.mono (fun j hj => ?_)))
          show mI M' (s + 36) j ≠ 0
          rw [hj.2]
          decide
      · exact y
    · obtain ⟨x, hx⟩ := at9 k hJ.1
      obtain ⟨b1, b2, b3⟩ := g3 k hJ.1
      refine ⟨x, hx, ?_⟩
      rcases (b3 hJ.2).2 with u | u
      · exact Or.inl (by rw [← (hS.2 k x hx).1]; exact u)
      · refine Or.inr ((co_iff hS k0 hx).mp (u.mono hG hJ.1 (fun j hj v => ⟨⟨hj, ?_⟩, v.2⟩)))
        have v1 : mI M' (s + 36) j ≠ 0 := v.1
        rcases (g3 j hj).1 with y | y
        · exact absurd y v1
        · exact y
  have uk : ∀ (k : Nat) (x : Int × List sc9), T[k]? = some x → (unk M' s k ↔ (((k : Int) < mI M s 1 ∧ mI M' (s + 36) k = 1) ∧ x.1 ≠ 3)) := fun k x hx => by
    have l := lt k x hx
    have b := (g3 k l).1
    unfold unk
    rw [e22, (hS.2 k x hx).1]
    constructor
    · intro u
      refine ⟨⟨l, ?_⟩, u.2⟩
      rcases b with y | y
      · exact absurd y u.1
      · exact y
    · intro u
      exact ⟨by rw [u.1.2]; decide, u.2⟩
  have U : unA9 T (fun k => (k : Int) < mI M s 1 ∧ mI M' (s + 36) k = 1) e := fun k x hx => by
    obtain ⟨c1, c2⟩ := hw k (by rw [es]; exact lt k x hx)
    exact ⟨fun u => (c1 ((uk k x hx).mpr u)).1, fun u => (c2 (fun v => u ((uk k x hx).mp v))).1⟩
  have Wt : ∀ (k : Nat) (x : Int × List sc9), T[k]? = some x → (e k = 1 → weA9 x (w k)) ∧ (e k = 0 → w k = 0) := fun k x hx => by
    obtain ⟨c1, c2⟩ := hw k (by rw [es]; exact lt k x hx)
    by_cases u : unk M' s k
    · obtain ⟨d1, D, v, d2, d3, d4, d5, d6⟩ := c1 u
      refine ⟨fun _ => ⟨D, v, ⟨d2, fun c hc => ?_, ?_⟩, d5, d6⟩, fun z => by omega⟩
      · obtain ⟨i, hi⟩ := List.getElem?_of_mem hc
        have li := lt_some hi
        obtain ⟨a1, a2, a3⟩ := hS.2 k x hx
        have q := d3 i (by unfold mny; rw [e23]; show (i : Int) < mny M s k; rw [a2]; omega) (Or.inl (by rw [es, k0, e22, a1]; exact fun z => absurd hc (by rw [hk k x hx z.symm]; exact List.not_mem_nil)))
        rw [e24, e23, (a3 i c hi).1] at q
        exact q
      · rcases d4 with y | ⟨i, y1, -, y2⟩
        · exact Or.inl y
        · obtain ⟨a1, a2, a3⟩ := hS.2 k x hx
          have y1' : (i : Int) < mny M s k := by unfold mny at y1; rw [e23] at y1; exact y1
          rw [a2] at y1'
          have g := List.getElem?_eq_getElem (l := x.2) (i := i) (by omega)
          refine Or.inr ⟨_, List.mem_of_getElem? g, ?_⟩
          rw [← (a3 i _ g).1, ← e24, ← e23]
          exact y2
    · obtain ⟨d1, d2⟩ := c2 u
      exact ⟨fun z => by omega, fun _ => d2⟩
  refine ⟨_, e, L, U, ?_⟩
  rcases hr with ⟨y1, y2⟩ | ⟨y1, y2, y3⟩ | ⟨y1, y2, y3⟩
  · exact Or.inl ⟨y1, y2⟩
  · exact Or.inr ⟨y1, w, Wt, Or.inl ⟨y2, y3⟩⟩
  · exact Or.inr ⟨y1, w, Wt, Or.inr ⟨y2, y3⟩⟩
end RSV
end
section
/-! The solver: the equations are written down. -/
/-- some cells hold A -/
def Tp (M : mM) (s : Nat) (P : Nat → Nat → Prop) (A : Nat → Nat → Rat) : Prop := ∀ i j, i < 40 → j < 41 → P i j → Fq M (cel s i j) 56 ∧ Fc M (cel s i j) ∧ fv M (cel s i j) = A i j
/-- all cells have room -/
def Ct (M : mM) (s : Nat) : Prop := ∀ i j, i < 40 → j < 41 → Ft M (cel s i j) 56
theorem Ct.out {S : Nat → Prop} {M M' : mM} {s : Nat} (h : Ct M s) (k : FI S M M') (hs : ∀ x, S x → x < s + 12868) : Ct M' s :=
  fun i j hi hj => (h i j hi hj).out k (fun x q => Or.inl (by have := hs x q; unfold cel; omega))
theorem Ct.put {M M' : mM} {s i j : Nat} (h : Ct M s) (hi : i < 40) (hj : j < 41) (k : FI (fS (cel s i j)) M M') (h1 : Ft M' (cel s i j) 56) : Ct M' s := by
  intro a b ha hb
  by_cases q : a = i ∧ b = j
  · rw [q.1, q.2]; exact h1
  · refine (h a b ha hb).out k (fun x w => ?_)
    have w' : cel s i j ≤ x ∧ x ≤ cel s i j + 4 := w
    unfold cel at w' ⊢
    by_cases z : a = i
    · subst z
      have : b ≠ j := fun y => q ⟨rfl, y⟩
      omega
    · omega
theorem Tp.out {S : Nat → Prop} {M M' : mM} {s : Nat} {P : Nat → Nat → Prop} {A : Nat → Nat → Rat} (h : Tp M s P A) (k : FI S M M') (hs : ∀ x, S x → x < s + 12868) : Tp M' s P A := by
  intro i j hi hj hp
  obtain ⟨h1, h2, h3⟩ := h i j hi hj hp
  have hs' : ∀ x, S x → x < cel s i j ∨ cel s i j + 4 < x := fun x q => Or.inl (by have := hs x q; unfold cel; omega)
  exact ⟨(h1.out k hs').1, h2.out h1 k hs', by rw [fv_out h1 k hs', h3]⟩
theorem Tp.put {M M' : mM} {s i j : Nat} {P Q : Nat → Nat → Prop} {A B : Nat → Nat → Rat} (h : Tp M s P A) (hi : i < 40) (hj : j < 41) (k : FI (fS (cel s i j)) M M') (h1 : Fq M' (cel s i j) 56) (h2 : Fc M' (cel s i j)) (h3 : fv M' (cel s i j) = B i j) (hq : ∀ a b, Q a b → (a = i ∧ b = j) ∨ (P a b ∧ B a b = A a b)) : Tp M' s Q B := by
  intro a b ha hb hp
  by_cases q : a = i ∧ b = j
  · obtain ⟨q1, q2⟩ := q
    subst q1 q2
    exact ⟨h1, h2, h3⟩
  · have hp2 : P a b ∧ B a b = A a b := by
      rcases hq a b hp with w | w
      · exact absurd w q
      · exact w
    obtain ⟨g1, g2, g3⟩ := h a b ha hb hp2.1
    have hs' : ∀ x, fS (cel s i j) x → x < cel s a b ∨ cel s a b + 4 < x := fun x w => by
      have w' : cel s i j ≤ x ∧ x ≤ cel s i j + 4 := w
      unfold cel at w' ⊢
      by_cases z : a = i
      · subst z
        have : b ≠ j := fun y => q ⟨rfl, y⟩
        omega
      · omega
    refine ⟨(g1.out k hs').1, g2.out g1 k hs', ?_⟩
    rw [fv_out g1 k hs', g3, hp2.2]
theorem Tp.congr {M : mM} {s : Nat} {P Q : Nat → Nat → Prop} {A B : Nat → Nat → Rat} (h : Tp M s P A) (hq : ∀ a b, a < 40 → b < 41 → Q a b → P a b ∧ B a b = A a b) : Tp M s Q B := by
  intro a b ha hb hp
  have w := hq a b ha hb hp
  obtain ⟨g1, g2, g3⟩ := h a b ha hb w.1
  exact ⟨g1, g2, g3.trans w.2.symm⟩
/-- the states of the rows, the commands played there -/
def uu (M : mM) (s r : Nat) : Nat := (mI M (s + 39) r).toNat
def pl (M : mM) (s k : Nat) : Nat := (mI M (s + 35) k).toNat
def rwc (M : mM) (s r : Nat) : Nat := cx M s (uu M s r) (pl M s (uu M s r))
/-- the rows are the unknown states, each once; what is played there is a command -/
def Enu (M : mM) (s m : Nat) : Prop := (∀ r, r < m → 0 ≤ mI M (s + 39) r ∧ mI M (s + 39) r < mI M s 1 ∧ unk M s (uu M s r) ∧ mI M (s + 40) (uu M s r) = r) ∧ (∀ k : Nat, (k : Int) < mI M s 1 → unk M s k → 0 ≤ mI M (s + 40) k ∧ mI M (s + 40) k < m ∧ mI M (s + 39) (mI M (s + 40) k).toNat = k)
  ∧ (∀ r, r < m → 0 ≤ mI M (s + 35) (uu M s r) ∧ mI M (s + 35) (uu M s r) < mny M s (uu M s r)) ∧ (∀ k : Nat, (k : Int) < mI M s 1 → mI M (s + 22) k = 3 → mI M (s + 36) k ≠ 0)
theorem Enu.out {S : Nat → Prop} {M M' : mM} {s m : Nat} (h : Enu M s m) (f : FI S M M') (h0 : ¬ S s) (h1 : ∀ x, s + 22 ≤ x → x ≤ s + 40 → ¬ S x) : Enu M' s m := by
  have f := f.2.2.2.2.2.2
  unfold Enu unk uu mny at h ⊢
  rw [f s h0, f (s + 22) (h1 _ (by omega) (by omega)), f (s + 23) (h1 _ (by omega) (by omega)), f (s + 35) (h1 _ (by omega) (by omega)), f (s + 36) (h1 _ (by omega) (by omega)), f (s + 39) (h1 _ (by omega) (by omega)), f (s + 40) (h1 _ (by omega) (by omega))]
  exact h
/-- the first b branches of command c -/
def cwp (M : mM) (s c b : Nat) (f : Nat → Int) : Rat := sr (fun b => chq M s (bg M s c + b) * (f (tg M s (bg M s c + b)) : Rat)) b
def isU (M : mM) (s j : Nat) : Nat → Int := fun k => if k = uu M s j then 1 else 0
def isT (M : mM) (s : Nat) : Nat → Int := fun k => if mI M (s + 22) k = 3 then 1 else 0
/-- the equations -/
def rowp (M : mM) (s m : Nat) : Nat → Nat → Rat := fun i j => cw M s (rwc M s i) (fun k => ((if j = m then isT M s else isU M s j) k : Rat))
def wrA (M : mM) (s m i b : Nat) : Nat → Nat → Rat := fun a j => if a = i then (if j = m then cwp M s (rwc M s i) b (isT M s) else (if i = j then 1 else 0) - cwp M s (rwc M s i) b (isU M s j)) else tA (rowp M s m) m 0 a j
abbrev rS (s : Nat) : Nat → Prop := fun x => (s + 2 ≤ x ∧ x ≤ s + 21) ∨ (s + 42 ≤ x ∧ x ≤ s + 46) ∨ (s + 12868 ≤ x ∧ x ≤ s + 21067)
section CP
variable {M : mM} {s c : Nat}
theorem cwp_succ {b : Nat} {f : Nat → Int} : cwp M s c (b + 1) f = cwp M s c b f + chq M s (bg M s c + b) * (f (tg M s (bg M s c + b)) : Rat) := rfl
theorem cwp_01 (hC : GB M s) (hc : (c : Int) < mI M s 2) {f : Nat → Int} (hf : ∀ k, f k = 0 ∨ f k = 1) {b : Nat} (hb : b ≤ nb M s c) : 0 ≤ cwp M s c b f ∧ cwp M s c b f ≤ 1 := by
  have hnn : ∀ j, j < nb M s c → 0 ≤ chq M s (bg M s c + j) * (f (tg M s (bg M s c + j)) : Rat) := fun j hj => Rat.mul_nonneg (Rat.le_of_lt (hC.chq_pos hc hj)) (by
    rcases hf (tg M s (bg M s c + j)) with q | q <;> rw [q] <;> decide)
  refine ⟨sr_nonneg b (fun j hj => hnn j (by omega)), ?_⟩
  have a := sr_part (f := fun b => chq M s (bg M s c + b) * (f (tg M s (bg M s c + b)) : Rat)) (a := b) (nb M s c - b) (fun j hj => hnn j (by omega))
  rw [show b + (nb M s c - b) = nb M s c by first | rfl | omega] at a
  have e := cw_le hC hc (f := fun k => (f k : Rat)) (g := fun _ => 1) (fun j hj => by rcases hf (tg M s (bg M s c + j)) with q | q <;> rw [q] <;> decide)
  rw [cw_one hC hc] at e
  exact Rat.le_trans a e
theorem cwp_int (hC : GB M s) (hc : (c : Int) < mI M s 2) {f : Nat → Int} {b : Nat} (hb : b ≤ nb M s c) : (mI M (s + 24) c : Rat) * cwp M s c b f = ((sm (fun b => mI M (s + 27) (bg M s c + b) * (mI M (s + 24) c / mI M (s + 28) (bg M s c + b)) * f (tg M s (bg M s c + b))) b : Int) : Rat) := by
  unfold cwp
  rw [sm_cast, ← sr_mul]
  refine sr_congr _ (fun j hj => ?_)
  have e := hC.chq_int hc (b := j) (by omega)
  rw [Rat.intCast_mul, ← e]
  grind
theorem isU_01 {j k : Nat} : isU M s j k = 0 ∨ isU M s j k = 1 := by unfold isU; split <;> omega
theorem isT_01 {k : Nat} : isT M s k = 0 ∨ isT M s k = 1 := by unfold isT; split <;> omega
theorem p30_56 : (1000000000 : Int) ≤ 16777216 ^ 56 := by decide
theorem cwp_sml (hC : GB M s) (hc : (c : Int) < mI M s 2) {f : Nat → Int} (hf : ∀ k, f k = 0 ∨ f k = 1) {b : Nat} (hb : b ≤ nb M s c) : Sml (cwp M s c b f) ∧ Sml (1 - cwp M s c b f) ∧ Sml (0 - cwp M s c b f) := by
  have a := cwp_01 hC hc hf hb
  have e := cwp_int hC hc (f := f) hb
  have m1 := (hC c hc).1
  have p := p30_56
  refine ⟨⟨mI M (s + 24) c, _, by omega, by omega, by rw [Rat.mul_comm]; exact e, a.2, by grind⟩, ⟨mI M (s + 24) c, mI M (s + 24) c - sm (fun b => mI M (s + 27) (bg M s c + b) * (mI M (s + 24) c / mI M (s + 28) (bg M s c + b)) * f (tg M s (bg M s c + b))) b, by omega, by omega, ?_, by grind, by grind⟩, ⟨mI M (s + 24) c, - sm (fun b => mI M (s + 27) (bg M s c + b) * (mI M (s + 24) c / mI M (s + 28) (bg M s c + b)) * f (tg M s (bg M s c + b))) b, by omega, by omega, ?_, by grind, by grind⟩⟩
  · rw [Rat.intCast_sub, ← e]
    grind
  · rw [Rat.intCast_neg, ← e]
    grind
theorem wrA_sml (hC : GB M s) {m i b j : Nat} (hc : (rwc M s i : Int) < mI M s 2) (hb : b ≤ nb M s (rwc M s i)) : Sml (wrA M s m i b i j) := by
  unfold wrA
  rw [if_pos rfl]
  by_cases q : j = m
  · rw [if_pos q]; exact (cwp_sml hC hc (fun k => isT_01) hb).1
  · rw [if_neg q]
    have w := (cwp_sml hC hc (f := isU M s j) (fun k => isU_01) hb).2
    by_cases z : i = j
    · rw [if_pos z]; exact w.1
    · rw [if_neg z]; exact w.2
theorem wrA_end {m i : Nat} (hm : m ≤ 40) {a j : Nat} : wrA M s m i (nb M s (rwc M s i)) a j = tA (rowp M s m) m 0 a j := by
  unfold wrA
  by_cases q : a = i
  · subst q
    rw [if_pos rfl]
    by_cases z : j = m
    · rw [if_pos z, z, tA_m]
      show _ = rowp M s m a m
      unfold rowp
      rw [if_pos rfl]
      rfl
    · rw [if_neg z, tA_ge (by omega) z]
      show _ = (if a = j then (1 : Rat) else 0) - rowp M s m a j
      unfold rowp
      rw [if_neg z]
      rfl
  · rw [if_neg q]
end CP
end
section
/-! The solver: writeRows. -/
theorem alg3 {a b c : Rat} : a - (b + c * 1) = a - b + -c := by grind
theorem alg4 {a b c : Rat} : a - (b + c * 0) = a - b := by grind
section VS
variable {G : mG} {d s m : Nat} {M : mM}
/-- what is known while row i is written -/
def wrI (M : mM) (s : Nat) (P : Nat → Nat → Prop) (A : Nat → Nat → Rat) (M2 : mM) : Prop := mOk M2 ∧ FI (rS s) M M2 ∧ Wk M2 s ∧ Ct M2 s ∧ Tp M2 s P A
theorem s_wr77 {i : Nat} {Q : mM → Prop} (hm : m ≤ 40) (hi : i < m) (hV : Vk M s) (hG : GW M s) (hC : GB M s) (h24 : mI M s 24 = m) (hE : Enu M s m)
    (hQ : ∀ M', wrI M s (fun a j => a < i + 1 ∧ j ≤ m) (tA (rowp M s m) m 0) M' → h_MS_writeRows_2 G (d + 4) s ((i : Int) + 1) M' Q) :
    ∀ (r b : Nat) (M2 : mM), b + r = nb M s (rwc M s i) → wrI M s (fun a j => a < i + 1 ∧ j ≤ m) (wrA M s m i b) M2 → h_MS_writeRows_77 G (d + 4) s i (rwc M s i) (mI M (s + 25) (rwc M s i) + b) M2 Q := by
  obtain ⟨u1, u2, u3, u4⟩ := hE.1 i hi
  have u5 := hE.2.2.1 i hi
  have huu : (uu M s i : Int) = mI M (s + 39) i := by unfold uu; omega
  have hc := hG.cmd (i := uu M s i) (by omega)
  have hi' := u5.2
  unfold mny at hi'
  have hcx : (rwc M s i : Int) = mI M (s + 23) (uu M s i) + mI M (s + 35) (uu M s i) := by unfold rwc cx pl; omega
  have hc2 : (rwc M s i : Int) < mI M s 2 := by omega
  have hb := hG.brn hc2
  have h2 := hG.2.1
  have h3 := hG.2.2.1
  have h4 := hG.2.2.2.1
  have ht := hG.2.2.2.2.2.2.2.2.2.2
  have ebg : (bg M s (rwc M s i) : Int) = mI M (s + 25) (rwc M s i) := by unfold bg; omega
  have enb : (nb M s (rwc M s i) : Int) = mI M (s + 25) (rwc M s i + 1) - mI M (s + 25) (rwc M s i) := by unfold nb; omega
  have hm1 := (hC _ hc2).1
  have hbr := (hC _ hc2).2.1
  have hsml : ∀ b j, b ≤ nb M s (rwc M s i) → Sml (wrA M s m i b i j) := fun b j hb => wrA_sml hC hc2 hb
  have hend : ∀ a j, wrA M s m i (nb M s (rwc M s i)) a j = tA (rowp M s m) m 0 a j := fun a j => wrA_end hm
  have hwr : ∀ b a j, wrA M s m i b a j = if a = i then (if j = m then cwp M s (rwc M s i) b (isT M s) else (if i = j then 1 else 0) - cwp M s (rwc M s i) b (isU M s j)) else tA (rowp M s m) m 0 a j := fun b a j => rfl
  clear hi' u1 u2 u3 u4 u5 huu hc hcx
  generalize hcc : rwc M s i = c at *
  have htg : ∀ b, b < nb M s c → (tg M s (bg M s c + b) : Int) < mI M s 1 ∧ (tg M s (bg M s c + b) : Int) = mI M (s + 26) (bg M s c + b) := fun b hb => by
    have := ht (bg M s c + b) (by omega)
    unfold tg
    omega
  intro r
  induction r with
  | zero =>
    intro b M2 hr hw
    have f2 := hw.2.1
    have o2 := hw.1
    have V2 := hV.fi f2
    have G2 : sameG M M2 s := sameG.of f2 (by omega) (fun y _ _ => by omega)
    have eb : b = nb M s c := by omega
    subst eb
    refine k_MS_writeRows_77 o2 ⟨by omega, by omega⟩ ⟨by omega, by omega⟩ ⟨by omega, by omega⟩ ?_
    rw [V2.r7, V2.n25, G2.2.2.2 (s + 25) (by omega) (by omega), show ((c : Int) + 1).toNat = c + 1 by first | rfl | omega]
    exact ⟨V2.k0, V2.k25, by omega, fun _ => hQ M2 ⟨hw.1, hw.2.1, hw.2.2.1, hw.2.2.2.1, hw.2.2.2.2.congr (fun a j _ _ q => ⟨q, (hend a j).symm⟩)⟩, fun q => by omega⟩
  | succ r ih =>
    intro b M2 hr hw
    have hbn : b < nb M s c := by omega
    have hlast : ∀ M7, wrI M s (fun a j => a < i + 1 ∧ j ≤ m) (wrA M s m i (b + 1)) M7 → h_MS_writeRows_207 G (d + 4) s i c (mI M (s + 25) c + b) M7 Q := fun M7 w7 => by
      have a := ih (b + 1) M7 (by omega) w7
      rw [show mI M (s + 25) c + ((b + 1 : Nat) : Int) = mI M (s + 25) c + (b : Int) + 1 by first | rfl | omega] at a
      exact k_MS_writeRows_207 w7.1 ⟨by omega, by omega⟩ ⟨by omega, by omega⟩ ⟨by omega, by omega⟩ a
    obtain ⟨o2, f2, W2, T2, P2⟩ := hw
    have V2 := hV.fi f2
    have G2 : sameG M M2 s := sameG.of f2 (by omega) (fun y _ _ => by omega)
    have fe := f2.2.2.2.2.2.2
    obtain ⟨v0, v1, v2⟩ := hbr b hbn
    have v3 : mI M (s + 28) (bg M s c + b) ≤ mI M (s + 24) c := Int.le_of_dvd (by omega) v2
    have v4 : mI M (s + 27) (bg M s c + b) < 9000000000000 := by
      have q := (hsml 0 0 (by omega))
      have := (o2 (s + 27) (bg M s c + b)).1.2
      rw [fe (s + 27) (by omega)] at this
      omega
    have ebb : (mI M (s + 25) c + (b : Int)).toNat = bg M s c + b := by omega
    obtain ⟨t1, t2⟩ := htg b hbn
    have ett : (mI M (s + 26) (bg M s c + b)).toNat = tg M s (bg M s c + b) := rfl
    generalize htt : tg M s (bg M s c + b) = t at *
    have hch : (mI M (s + 27) (bg M s c + b) : Rat) * (mI M (s + 28) (bg M s c + b) : Rat)⁻¹ = chq M s (bg M s c + b) := rfl
    have hstep : ∀ f : Nat → Int, cwp M s c (b + 1) f = cwp M s c b f + chq M s (bg M s c + b) * (f t : Rat) := fun f => by rw [cwp_succ, htt]
    refine k_MS_writeRows_77 o2 ⟨by omega, by omega⟩ ⟨by omega, by omega⟩ ⟨by omega, by omega⟩ ?_
    rw [V2.r7, V2.r8, V2.r19, V2.r4, V2.r23, V2.n22, V2.n25, V2.n26, V2.n36, V2.n40, fe (s + 25) (by omega), fe (s + 26) (by omega), fe (s + 36) (by omega), fe (s + 22) (by omega), fe (s + 40) (by omega), fe s (by omega), h24, show ((c : Int) + 1).toNat = c + 1 by first | rfl | omega, ebb, ← t2, Int.toNat_natCast]
    refine ⟨V2.k0, V2.k25, by omega, fun q => by omega, fun _ => ⟨V2.k26, by omega, V2.k36, by omega, fun hin => ?_, fun hin => ⟨V2.k22, by omega, fun v hv => ⟨fun _ => ⟨V2.k40, by omega⟩, fun w hw => ?_⟩⟩⟩⟩
    · refine hlast M2 ⟨o2, f2, W2, T2, P2.congr (fun a j ha hj q => ⟨q, ?_⟩)⟩
      have e1 : isT M s t = 0 := if_neg (fun y => hE.2.2.2 t t1 y hin)
      have e2 : ∀ j, j < m → isU M s j t = 0 := fun j hj => if_neg (fun y => by
        have := (hE.1 j hj).2.2.1.1
        rw [← y] at this
        exact this hin)
      have z0 : ((0 : Int) : Rat) = 0 := rfl
      rw [hwr, hwr]
      by_cases qa : a = i
      · rw [if_pos qa, if_pos qa]
        by_cases qj : j = m
        · rw [if_pos qj, if_pos qj, hstep, e1, z0]; grind
        · rw [if_neg qj, if_neg qj, hstep, e2 j (by omega), z0]; grind
      · rw [if_neg qa, if_neg qa]
    · have hkey : ∃ j : Nat, w = j ∧ j ≤ m ∧ (∀ a l, a < i + 1 → l ≤ m → wrA M s m i (b + 1) a l = if a = i ∧ l = j then wrA M s m i b i j + (if v = 0 then - chq M s (bg M s c + b) else chq M s (bg M s c + b)) else wrA M s m i b a l) := by
        have z0 : ((0 : Int) : Rat) = 0 := rfl
        have z1 : ((1 : Int) : Rat) = 1 := rfl
        by_cases q3 : mI M (s + 22) t = 3
        · rw [if_pos q3] at hv
          rw [if_neg (by omega)] at hw
          refine ⟨m, hw, by omega, fun a l ha hl => ?_⟩
          have e1 : isT M s t = 1 := if_pos q3
          have e2 : ∀ j, j < m → isU M s j t = 0 := fun j hj => if_neg (fun y => by
            have := (hE.1 j hj).2.2.1.2
            rw [← y] at this
            exact this q3)
          rw [if_neg (show ¬ v = 0 by first | rfl | omega), hwr, hwr, hwr, if_pos rfl, if_pos rfl]
          by_cases qa : a = i
          · rw [if_pos qa]
            by_cases qj : l = m
            · rw [if_pos qj, if_pos ⟨qa, qj⟩, hstep, e1, z1]; grind
            · rw [if_neg qj, if_neg (show ¬ (a = i ∧ l = m) from fun y => qj y.2), if_pos qa, if_neg qj, hstep, e2 l (by omega), z0]; exact alg4
          · rw [if_neg qa, if_neg (fun y => qa y.1), if_neg qa]
        · rw [if_neg q3] at hv
          rw [if_pos hv] at hw
          obtain ⟨r1, r2, r3⟩ := hE.2.1 t t1 ⟨hin, q3⟩
          have e1 : isT M s t = 0 := if_neg q3
          have er : (mI M (s + 40) t).toNat < m ∧ ((mI M (s + 40) t).toNat : Int) = mI M (s + 40) t := by omega
          have euj : uu M s (mI M (s + 40) t).toNat = t := by unfold uu; omega
          refine ⟨(mI M (s + 40) t).toNat, by omega, by omega, fun a l ha hl => ?_⟩
          have e2 : ∀ j, j < m → isU M s j t = if j = (mI M (s + 40) t).toNat then 1 else 0 := fun j hj => by
            unfold isU
            by_cases y : j = (mI M (s + 40) t).toNat
            · rw [if_pos y, if_pos (by rw [y, euj])]
            · rw [if_neg y, if_neg (fun z => y (by
                have q := (hE.1 j hj).2.2.2
                rw [← z] at q
                omega))]
          rw [if_pos hv, hwr, hwr, hwr, if_pos rfl, if_neg (show ¬ (mI M (s + 40) t).toNat = m by first | rfl | omega)]
          by_cases qa : a = i
          · rw [if_pos qa]
            by_cases qj : l = m
            · rw [if_pos qj, if_neg (by omega), if_pos qa, if_pos qj, hstep, e1, z0]; grind
            · rw [if_neg qj, hstep, e2 l (by omega)]
              by_cases y : l = (mI M (s + 40) t).toNat
              · rw [if_pos y, if_pos (show a = i ∧ l = (mI M (s + 40) t).toNat from ⟨qa, y⟩), z1, ← y]; exact alg3
              · rw [if_neg y, if_neg (show ¬ (a = i ∧ l = (mI M (s + 40) t).toNat) from fun z => y z.2), if_pos qa, if_neg qj, z0]; exact alg4
          · rw [if_neg qa, if_neg (fun y => qa y.1), if_neg qa]
      obtain ⟨j, ew, hj, hA⟩ := hkey
      have hv01 : v = 0 ∨ v = 1 := by split at hv <;> omega
      clear hin hv hw
      subst ew
      refine (s_MS_cell (by omega) (by omega) o2 V2).mono (fun x M3 h3' => ?_)
      obtain ⟨e3, hx⟩ := h3'
      subst e3 hx
      rw [V2.r9, V2.r10, V2.r26, V2.n27, V2.n28, fe (s + 27) (by omega), fe (s + 28) (by omega)]
      refine ⟨o2, V2.k0, V2.k27, by omega, V2.k28, by omega, W2.2.1.1.1, (s_MF_set ⟨by omega, by omega⟩ (by omega) ⟨by omega, by omega⟩ (by omega) o2 W2.2.1 (by omega)).mono (fun M4 h4' => ?_)⟩
      obtain ⟨o4, f4, F4, y1, y2, -⟩ := h4'
      have f4' : FI (fun y => s + 42 ≤ y ∧ y ≤ s + 46) M3 M4 := f4.mono (fun y q => by have : s + 42 ≤ y ∧ y ≤ s + 42 + 4 := q; omega)
      have V4 := V2.fi f4
      have W4 : Wk M4 s := W2.put f4 F4.ft (by omega)
      have T4 := T2.out f4' (fun y q => by omega)
      have P4 := P2.out f4' (fun y q => by omega)
      have c4 := P4 i j (by omega) (by omega) ⟨by omega, hj⟩
      have z1 := F4.2.1.1.2.2.2.2.2.2
      have z2 := F4.2.2.1.1.2.2.2.2.2.2
      have z3 := c4.1.2.1.1.2.2.2.2.2.2
      have z4 := c4.1.2.2.1.1.2.2.2.2.2.2
      refine ⟨o4, V4.k0, fun x84 h84 => ?_⟩
      have h84' : x84 = 0 ∨ x84 = 1 := by split at h84 <;> omega
      rw [V4.r0, V4.r26]
      refine ⟨W4.1.1.1, (s_MU_add (d := d) h84' o4 W4.1 c4.1 F4 (by unfold suO cel; omega) (by unfold suO; omega) (by omega) (by omega) (by omega)).mono (fun M5 h5 => ?_)⟩
      have v5 := fv_add h84' c4.1 F4 h5
      rw [c4.2.2, fv_set y1 y2, hch] at v5
      have v6 : fv M5 (s + 1 + 1) = wrA M s m i (b + 1) i j := by
        rw [v5, hA i j (by omega) hj, if_pos (show i = i ∧ j = j from ⟨rfl, rfl⟩)]
        rcases hv01 with q | q
        · rw [if_pos q] at h84
          rw [if_pos h84, if_pos q]
          exact Rat.sub_eq_add_neg ..
        · rw [if_neg (by omega)] at h84
          rw [if_neg (show ¬ x84 = 1 by first | rfl | omega), if_neg (show ¬ v = 0 by first | rfl | omega)]
      obtain ⟨o5, f5, Z5, F5, C5, -⟩ := h5
      have f5' : FI (fun y => s + 2 ≤ y ∧ y ≤ s + 21) M4 M5 := f5.mono (fun y q => by omega)
      have V5 := V4.fi f5
      have W5 : Wk M5 s := W4.out f5' Z5 (fun y q => by omega)
      have T5 := T4.out f5' (fun y q => by omega)
      have P5 := P4.out f5' (fun y q => by omega)
      have hsm := sml_size F5 C5 (by rw [v6]; exact hsml (b + 1) j (by omega))
      have c5 := P5 i j (by omega) (by omega) ⟨by omega, hj⟩
      rw [V5.r0, Z5.1.2.1]
      refine ⟨o5, V5.k0, Z5.1.1, c5.1.1.1, (s_MF_copy o5 c5.1.ft F5 (by unfold cel; omega) hsm.1 hsm.2).mono (fun M6 h6 => ?_)⟩
      obtain ⟨o6, f6, F6, w4, w5, w6⟩ := h6
      have C6 := fc_copy C5 w4 w5 w6
      have f6' : FI (fun y => s + 12868 ≤ y ∧ y ≤ s + 21067) M5 M6 := f6.mono (fun x q => by have q' : cel s i j ≤ x ∧ x ≤ cel s i j + 4 := q; unfold cel at q'; omega)
      have P6 := P5.put (Q := fun a j => a < i + 1 ∧ j ≤ m) (B := wrA M s m i (b + 1)) (by omega) (by omega) f6 F6 C6.1 (C6.2.trans v6) (fun a l q => by
        by_cases z : a = i ∧ l = j
        · exact Or.inl z
        · exact Or.inr ⟨q, by rw [hA a l q.1 q.2, if_neg z]⟩)
      exact ⟨o6, hlast M6 ⟨o6, ((f2.trans (f4'.mono (fun y q => by omega))).trans (f5'.mono (fun y q => by omega))).trans (f6'.mono (fun y q => by omega)), W5.far f6' (fun y q => by omega), T5.put (by omega) (by omega) f6 F6.ft, P6⟩⟩
theorem s_MS_writeRows (hm : m ≤ 40) (hO : mOk M) (hV : Vk M s) (hG : GW M s) (hC : GB M s) (h24 : mI M s 24 = m) (hE : Enu M s m) (hW : Wk M s) (hT : Ct M s) :
    Cv G y_MS_writeRows (d + 5) [vr s] M (fun M' => mOk M' ∧ FI (rS s) M M' ∧ Wk M' s ∧ Ct M' s ∧ Tb M' s m (tA (rowp M s m) m 0)) := by
  refine k_MS_writeRows hO ?_
  suffices H : ∀ (n i : Nat) (M2 : mM), i + n = m → wrI M s (fun a j => a < i ∧ j ≤ m) (tA (rowp M s m) m 0) M2 → h_MS_writeRows_2 G (d + 4) s i M2 (fun M' => mOk M' ∧ FI (rS s) M M' ∧ Wk M' s ∧ Ct M' s ∧ Tb M' s m (tA (rowp M s m) m 0)) from
    H m 0 M (by omega) ⟨hO, FI.refl, hW, hT, fun i j _ _ q => by omega⟩
  intro n
  induction n with
  | zero =>
    intro i M2 hn hw
    have ei : i = m := by omega
    subst ei
    have fe := hw.2.1.2.2.2.2.2.2
    refine k_MS_writeRows_2 hw.1 ⟨by omega, by omega⟩ ?_
    rw [fe s (by omega), h24]
    exact ⟨(hV.fi hw.2.1).k0, fun _ => ⟨hw.1, hw.2.1, hw.2.2.1, hw.2.2.2.1, fun a j ha hj => hw.2.2.2.2 a j (by omega) (by omega) ⟨ha, hj⟩⟩, fun q => by omega⟩
  | succ n ih =>
    intro i M2 hn hw
    have hi : i < m := by omega
    have fe := hw.2.1.2.2.2.2.2.2
    refine k_MS_writeRows_2 hw.1 ⟨by omega, by omega⟩ ?_
    rw [fe s (by omega), h24]
    refine ⟨(hV.fi hw.2.1).k0, fun q => by omega, fun _ => ?_⟩
    have h77 := s_wr77 (G := G) (d := d) hm hi hV hG hC h24 hE (fun M' w => ih (i + 1) M' (by omega) w)
    suffices H : ∀ (t l : Nat) (M3 : mM), l + t = m + 1 → wrI M s (fun a j => (a < i ∧ j ≤ m) ∨ (a = i ∧ j < l)) (wrA M s m i 0) M3 → h_MS_writeRows_12 G (d + 4) s i l M3 (fun M' => mOk M' ∧ FI (rS s) M M' ∧ Wk M' s ∧ Ct M' s ∧ Tb M' s m (tA (rowp M s m) m 0)) from
      H (m + 1) 0 M2 (by omega) ⟨hw.1, hw.2.1, hw.2.2.1, hw.2.2.2.1, hw.2.2.2.2.congr (fun a j ha hj q => ⟨by omega, by
        unfold wrA
        rw [if_neg (by omega)]⟩)⟩
    clear hw fe M2
    obtain ⟨u1, u2, u3, u4⟩ := hE.1 i hi
    have u5 := hE.2.2.1 i hi
    have huu : (uu M s i : Int) = mI M (s + 39) i := by unfold uu; omega
    have hc := hG.cmd (i := uu M s i) (by omega)
    have hi' := u5.2
    unfold mny at hi'
    have hcx : (rwc M s i : Int) = mI M (s + 23) (uu M s i) + mI M (s + 35) (uu M s i) := by unfold rwc cx pl; omega
    have hc2 : (rwc M s i : Int) < mI M s 2 := by omega
    have h2 := hG.2.1
    have h3 := hG.2.2.1
    intro t
    induction t with
    | zero =>
      intro l M3 hl hw
      have fe := hw.2.1.2.2.2.2.2.2
      have V3 := hV.fi hw.2.1
      have el : l = m + 1 := by omega
      subst el
      refine k_MS_writeRows_12 hw.1 ⟨by omega, by omega⟩ ⟨by omega, by omega⟩ ?_
      rw [V3.r22, V3.r5, V3.r18, V3.r7, V3.n39, V3.n23, V3.n35, V3.n25, fe s (by omega), h24, fe (s + 39) (by omega), fe (s + 23) (by omega), fe (s + 35) (by omega), fe (s + 25) (by omega), Int.toNat_natCast]
      have ef : (mI M (s + 39) i).toNat = uu M s i := rfl
      rw [ef, ← hcx, Int.toNat_natCast]
      refine ⟨V3.k0, fun _ => ⟨V3.k39, by omega, V3.k23, by omega, by omega, V3.k35, by omega, V3.k25, by omega, ?_⟩, fun q => by omega⟩
      have a := h77 (nb M s (rwc M s i)) 0 M3 (by omega) ⟨hw.1, hw.2.1, hw.2.2.1, hw.2.2.2.1, hw.2.2.2.2.congr (fun a j ha hj q => ⟨by omega, rfl⟩)⟩
      rw [show mI M (s + 25) (rwc M s i) + ((0 : Nat) : Int) = mI M (s + 25) (rwc M s i) by first | rfl | omega] at a
      exact a
    | succ t iht =>
      intro l M3 hl hw
      obtain ⟨o3, f3, W3, T3, P3⟩ := hw
      have fe := f3.2.2.2.2.2.2
      have V3 := hV.fi f3
      refine k_MS_writeRows_12 o3 ⟨by omega, by omega⟩ ⟨by omega, by omega⟩ ?_
      rw [fe s (by omega), h24]
      refine ⟨V3.k0, fun q => by omega, fun _ => (s_MS_cell (by omega) (by omega) o3 V3).mono (fun x M4 h4 => ?_)⟩
      obtain ⟨e4, hx⟩ := h4
      subst e4 hx
      have cf := T3 i l (by omega) (by omega)
      refine ⟨o3, fun v hv => ⟨cf.1.1, (s_MF_set ⟨by split at hv <;> omega, by split at hv <;> omega⟩ (by split at hv <;> omega) ⟨by omega, by omega⟩ (by omega) o3 cf (by omega)).mono (fun M5 h5 => ?_)⟩⟩
      obtain ⟨o5, f5, F5, y1, y2, y3⟩ := h5
      have C5 := fc_one F5 y2 (fun q => y3 (by omega))
      have e5 : fv M5 (cel s i l) = wrA M s m i 0 i l := by
        rw [fv_set y1 y2]
        unfold wrA
        rw [if_pos rfl]
        have z0 : ((0 : Int) : Rat) = 0 := rfl
        have z1 : ((1 : Int) : Rat) = 1 := rfl
        have c0 : ∀ f, cwp M s (rwc M s i) 0 f = 0 := fun f => rfl
        rw [c0, c0, z1]
        by_cases q : l = m
        · rw [if_pos q]
          rw [if_neg (by omega)] at hv
          rw [hv, z0]; grind
        · rw [if_neg q]
          by_cases z : i = l
          · rw [if_pos z]
            rw [if_pos (by omega)] at hv
            rw [hv, z1]; grind
          · rw [if_neg z]
            rw [if_neg (by omega)] at hv
            rw [hv, z0]; grind
      have f5' : FI (fun y => s + 12868 ≤ y ∧ y ≤ s + 21067) M4 M5 := f5.mono (fun x q => by have q' : cel s i l ≤ x ∧ x ≤ cel s i l + 4 := q; unfold cel at q'; omega)
      have P5 := P3.put (Q := fun a j => (a < i ∧ j ≤ m) ∨ (a = i ∧ j < l + 1)) (B := wrA M s m i 0) (by omega) (by omega) f5 F5 C5 e5 (fun a j q => by
        by_cases z : a = i ∧ j = l
        · exact Or.inl z
        · exact Or.inr ⟨by omega, rfl⟩)
      exact ⟨o5, iht (l + 1) M5 (by omega) ⟨o5, f3.trans (f5'.mono (fun y q => by omega)), W3.far f5' (fun y q => by omega), T3.put (by omega) (by omega) f5 F5.ft, P5⟩⟩
end VS
end
section
/-! The equations that are written down have one small answer. -/
theorem cw_sr {M : mM} {s c : Nat} {f : Nat → Nat → Rat} : ∀ (n : Nat), sr (fun j => cw M s c (f j)) n = cw M s c (fun k => sr (fun j => f j k) n)
  | 0 => by
    show (0 : Rat) = cw M s c (fun _ => 0)
    have e := cw_mul (M := M) (s := s) (c := c) (x := 0) (f := fun _ => 0)
    have e1 : cw M s c (fun _ => 0) = cw M s c (fun _ => 0 * 0) := cw_congr (fun b hb => by grind)
    rw [e1, e]
    grind
  | n + 1 => by
    rw [sr, cw_sr n, ← cw_add]
    rfl
theorem pr_pow {f w : Nat → Int} : ∀ (k : Nat), (∀ r, r < k → 0 ≤ f r ∧ f r ≤ 2 ^ (w r).toNat ∧ 0 ≤ w r) → pr f k ≤ 2 ^ (sm w k).toNat ∧ 0 ≤ pr f k ∧ 0 ≤ sm w k
  | 0, _ => ⟨by show (1 : Int) ≤ 2 ^ (0 : Int).toNat; decide, by show (0 : Int) ≤ 1; decide, by show (0 : Int) ≤ 0; decide⟩
  | k + 1, h => by
    obtain ⟨a, b, c⟩ := pr_pow k (fun r hr => h r (by omega))
    obtain ⟨h1, h2, h3⟩ := h k (by omega)
    rw [pr, sm]
    refine ⟨?_, Int.mul_nonneg b h1, by omega⟩
    rw [show (sm w k + w k).toNat = (sm w k).toNat + (w k).toNat by first | rfl | omega, Int.pow_add]
    exact Int.mul_le_mul a h2 h1 (Int.pow_nonneg (by omega))
theorem sm_part {f : Nat → Int} {a : Nat} : ∀ (n : Nat), (∀ c, c < a + n → 0 ≤ f c) → sm f a ≤ sm f (a + n)
  | 0, _ => Int.le_refl _
  | n + 1, h => by
    have h1 := sm_part (f := f) (a := a) n (fun c hc => h c (by omega))
    have h2 := h (a + n) (by omega)
    have e : sm f (a + (n + 1)) = sm f (a + n) + f (a + n) := rfl
    omega
theorem two_pow_le {a b : Nat} (h : a ≤ b) : (2 : Int) ^ a ≤ 2 ^ b := by
  obtain ⟨c, rfl⟩ := Nat.le.dest h
  rw [Int.pow_add]
  have h1 : (0 : Int) < 2 ^ a := Int.pow_pos (by omega)
  have h2 : (0 : Int) < 2 ^ c := Int.pow_pos (by omega)
  have := Int.mul_le_mul_of_nonneg_left (a := 1) (b := 2 ^ c) (c := 2 ^ a) (by omega) (by omega)
  omega
theorem ic_mono {x y : Int} (h : x ≤ y) : (x : Rat) ≤ (y : Rat) := by exact_mod_cast h
theorem p480 : (2 : Int) ^ 480 < 16777216 ^ 21 := by decide
theorem p510 : (1000000000 : Int) * 2 ^ 480 < 16777216 ^ 56 := by decide
/-- a state's row, as a function of states -/
def eU (M : mM) (s : Nat) (g : Nat → Rat) : Nat → Rat := fun k => if mI M (s + 36) k ≠ 0 ∧ mI M (s + 22) k ≠ 3 then g (mI M (s + 40) k).toNat else 0
def rowD (M : mM) (s : Nat) : Nat → Int := fun r => mI M (s + 24) (rwc M s r)
def rowN (M : mM) (s m : Nat) : Nat → Nat → Int := fun r c => sm (fun b => mI M (s + 27) (bg M s (rwc M s r) + b) * (mI M (s + 24) (rwc M s r) / mI M (s + 28) (bg M s (rwc M s r) + b)) * (if c = m then isT M s else isU M s c) (tg M s (bg M s (rwc M s r) + b))) (nb M s (rwc M s r))
/-- each row's command may lead nearer to the end -/
def Lds (M : mM) (s m : Nat) (ρ : Nat → Nat) : Prop := ∀ r, r < m → ∃ b, b < nb M s (rwc M s r) ∧ mI M (s + 36) (tg M s (bg M s (rwc M s r) + b)) ≠ 0 ∧ ρ (tg M s (bg M s (rwc M s r) + b)) < ρ (uu M s r)
section SY
variable {M : mM} {s m : Nat}
theorem Enu.pick (hE : Enu M s m) {k : Nat} (hk : (k : Int) < mI M s 1) (g : Nat → Rat) : sr (fun j => (isU M s j k : Rat) * g j) m = eU M s g k := by
  have z0 : ((0 : Int) : Rat) = 0 := rfl
  have z1 : ((1 : Int) : Rat) = 1 := rfl
  unfold eU
  by_cases q : mI M (s + 36) k ≠ 0 ∧ mI M (s + 22) k ≠ 3
  · rw [if_pos q]
    obtain ⟨r1, r2, r3⟩ := hE.2.1 k hk q
    rw [sr_congr (g := fun j => if (mI M (s + 40) k).toNat = j then 1 * g j else 0) m (fun j hj => ?_), sr_pick, if_pos (by omega)]
    · grind
    · unfold isU
      by_cases y : (mI M (s + 40) k).toNat = j
      · rw [if_pos y, if_pos (by unfold uu; rw [← y]; omega), z1]
      · rw [if_neg y, if_neg (fun z => y (by
          have w := (hE.1 j hj).2.2.2
          rw [← z] at w
          omega)), z0]
        grind
  · rw [if_neg q]
    rw [sr_congr (g := fun j => 0 * (fun _ => 0) j) m (fun j hj => ?_), sr_mul]
    · grind
    · unfold isU
      rw [if_neg (fun z => q (by
        have w := (hE.1 j hj).2.2.1
        rw [← z] at w
        exact w)), z0]
      grind
theorem Enu.cmd (hE : Enu M s m) (hG : GW M s) {i : Nat} (hi : i < m) : (uu M s i : Int) < mI M s 1 ∧ (rwc M s i : Int) < mI M s 2 ∧ (pl M s (uu M s i) : Int) < mny M s (uu M s i) ∧ (pl M s (uu M s i) : Int) = mI M (s + 35) (uu M s i) := by
  obtain ⟨u1, u2, u3, u4⟩ := hE.1 i hi
  have u5 := hE.2.2.1 i hi
  have huu : (uu M s i : Int) = mI M (s + 39) i := by unfold uu; omega
  have hc := hG.cmd (i := uu M s i) (by omega)
  have hi' := u5.2
  unfold mny at hi' ⊢
  have hcx : (rwc M s i : Int) = mI M (s + 23) (uu M s i) + mI M (s + 35) (uu M s i) := by unfold rwc cx pl; omega
  unfold pl
  omega
theorem tg_lt (hG : GW M s) {c b : Nat} (hc : (c : Int) < mI M s 2) (hb : b < nb M s c) : (tg M s (bg M s c + b) : Int) < mI M s 1 := by
  have h := hG.brn hc
  have ht := hG.2.2.2.2.2.2.2.2.2.2 (bg M s c + b) (by unfold bg nb at *; omega)
  unfold tg
  omega
/-- a row, as a sum over branches -/
theorem rowp_sum (hE : Enu M s m) (hG : GW M s) {i : Nat} (hi : i < m) (g : Nat → Rat) : sr (fun j => rowp M s m i j * g j) m = cw M s (rwc M s i) (eU M s g) := by
  have hc := (hE.cmd hG hi).2.1
  rw [sr_congr (g := fun j => cw M s (rwc M s i) (fun k => (isU M s j k : Rat) * g j)) m (fun j hj => ?_), cw_sr]
  · refine cw_congr (fun b hb => ?_)
    exact hE.pick (tg_lt hG hc hb) g
  · unfold rowp
    rw [if_neg (by omega), Rat.mul_comm, ← cw_mul]
    exact cw_congr (fun b hb => by grind)
theorem rowp_m {i : Nat} : rowp M s m i m = cw M s (rwc M s i) (fun k => (isT M s k : Rat)) := by
  unfold rowp
  rw [if_pos rfl]
theorem rowp_nn (hE : Enu M s m) (hG : GW M s) (hC : GB M s) {i j : Nat} (hi : i < m) : 0 ≤ rowp M s m i j := by
  have hc := (hE.cmd hG hi).2.1
  unfold rowp cw
  refine sr_nonneg _ (fun b hb => Rat.mul_nonneg (Rat.le_of_lt (hC.chq_pos hc hb)) ?_)
  by_cases q : j = m
  · rw [if_pos q]
    show (0 : Rat) ≤ ((isT M s (tg M s (bg M s (rwc M s i) + b)) : Int) : Rat)
    rcases isT_01 (M := M) (s := s) (k := tg M s (bg M s (rwc M s i) + b)) with w | w <;> rw [w] <;> decide
  · rw [if_neg q]
    show (0 : Rat) ≤ ((isU M s j (tg M s (bg M s (rwc M s i) + b)) : Int) : Rat)
    rcases isU_01 (M := M) (s := s) (j := j) (k := tg M s (bg M s (rwc M s i) + b)) with w | w <;> rw [w] <;> decide
theorem rowp_le (hE : Enu M s m) (hG : GW M s) (hC : GB M s) {i : Nat} (hi : i < m) : sr (rowp M s m i) (m + 1) ≤ 1 := by
  have hc := (hE.cmd hG hi).2.1
  have e1 : sr (rowp M s m i) m = cw M s (rwc M s i) (eU M s (fun _ => 1)) := by
    rw [← rowp_sum hE hG hi]
    exact sr_congr m (fun j hj => by grind)
  rw [sr, e1, rowp_m, ← cw_add]
  have a := cw_le hC hc (f := fun k => eU M s (fun _ => 1) k + (isT M s k : Rat)) (g := fun _ => 1) (fun b hb => by
    unfold eU isT
    by_cases q : mI M (s + 22) (tg M s (bg M s (rwc M s i) + b)) = 3
    · rw [if_neg (fun w => w.2 q), if_pos q, show ((1 : Int) : Rat) = 1 from rfl]; grind
    · rw [if_neg q, show ((0 : Int) : Rat) = 0 from rfl]
      split
      · show (1 : Rat) + 0 ≤ 1; grind
      · grind)
  rw [cw_one hC hc] at a
  exact a
theorem chq_ge (hC : GB M s) {c b : Nat} (hc : (c : Int) < mI M s 2) (hb : b < nb M s c) : ((1000000000 : Int) : Rat)⁻¹ ≤ chq M s (bg M s c + b) := by
  obtain ⟨u0, u1, u2⟩ := (hC c hc).2.1 b hb
  have h1 := (hC c hc).1
  have u3 : mI M (s + 28) (bg M s c + b) ≤ mI M (s + 24) c := Int.le_of_dvd (by omega) u2
  unfold chq
  have p1 : (0 : Rat) < (mI M (s + 28) (bg M s c + b) : Rat) := Rat.intCast_pos.2 u1
  have q1 := Rat.mul_inv_cancel _ (ic_ne u1)
  have q2 := Rat.mul_inv_cancel _ (ic_ne (x := 1000000000) (by omega))
  have i1 : (0 : Rat) < (mI M (s + 28) (bg M s c + b) : Rat)⁻¹ := Rat.inv_pos.2 p1
  have i2 : (0 : Rat) < ((1000000000 : Int) : Rat)⁻¹ := Rat.inv_pos.2 (Rat.intCast_pos.2 (by omega))
  have k1 : (1 : Rat) ≤ (mI M (s + 27) (bg M s c + b) : Rat) := by
    have : ((1 : Int) : Rat) ≤ (mI M (s + 27) (bg M s c + b) : Rat) := ic_mono (by omega)
    exact this
  have k2 : (mI M (s + 28) (bg M s c + b) : Rat) ≤ ((1000000000 : Int) : Rat) := ic_mono (by omega)
  generalize ((1000000000 : Int) : Rat) = Z at *
  generalize (mI M (s + 28) (bg M s c + b) : Rat) = v at *
  generalize (mI M (s + 27) (bg M s c + b) : Rat) = y at *
  have a := Rat.mul_nonneg (a := (Z - v) * Z⁻¹) (b := v⁻¹) (Rat.mul_nonneg (by grind) (Rat.le_of_lt i2)) (Rat.le_of_lt i1)
  have b := Rat.mul_nonneg (a := y - 1) (b := v⁻¹) (by grind) (Rat.le_of_lt i1)
  generalize Z⁻¹ = z at *
  generalize v⁻¹ = w at *
  have e : (Z - v) * z * w = (Z * z) * w - (v * w) * z := by grind
  rw [q1, q2] at e
  grind
theorem rowp_sy {ρ : Nat → Nat} {w : Nat → Int} (hE : Enu M s m) (hG : GW M s) (hC : GB M s) (hL : Lds M s m ρ) (hw : ∀ r, r < m → 0 ≤ w r ∧ 2 * rowD M s r ≤ 2 ^ (w r).toNat) (hw2 : sm w m ≤ 480) : Sy m (rowp M s m) (rowN M s m) (rowD M s) := by
  have hint : ∀ r c, r < m → c ≤ m → (rowD M s r : Rat) * rowp M s m r c = (rowN M s m r c : Rat) := fun r c hr _ => by
    have hc := (hE.cmd hG hr).2.1
    unfold rowD rowp rowN
    exact cw_int hC hc
  have hD1 : ∀ r, r < m → 1 ≤ rowD M s r ∧ rowD M s r < 1000000000 := fun r hr => by
    have h := (hC _ (hE.cmd hG hr).2.1).1
    unfold rowD
    omega
  obtain ⟨h, g⟩ : ∃ h, gok m 0 (rowp M s m) h := by
    have hu : (0 : Rat) < ((1000000000 : Int) : Rat)⁻¹ := Rat.inv_pos.2 (Rat.intCast_pos.2 (by omega))
    have hu1 : ((1000000000 : Int) : Rat)⁻¹ ≤ 1 := by
      have q2 := Rat.mul_inv_cancel _ (ic_ne (x := 1000000000) (by omega))
      have k : (1 : Rat) ≤ ((1000000000 : Int) : Rat) := by decide
      generalize ((1000000000 : Int) : Rat) = Z at *
      have a := Rat.mul_nonneg (a := Z - 1) (b := Z⁻¹) (by grind) (Rat.le_of_lt hu)
      grind
    refine cert (ρ := fun r => ρ (uu M s r)) hu hu1 (fun i j hi hj => rowp_nn hE hG hC hi) (fun i hi => rowp_le hE hG hC hi) (fun i hi => ?_)
    obtain ⟨b, hb, hb1, hb2⟩ := hL i hi
    have hc := (hE.cmd hG hi).2.1
    have hge := chq_ge hC hc hb
    have htl := tg_lt hG hc hb
    have hone : ∀ f : Nat → Int, (∀ k, f k = 0 ∨ f k = 1) → f (tg M s (bg M s (rwc M s i) + b)) = 1 → ((1000000000 : Int) : Rat)⁻¹ ≤ cw M s (rwc M s i) (fun k => (f k : Rat)) := fun f hf h1 => by
      have a := sr_one (f := fun b => chq M s (bg M s (rwc M s i) + b) * (f (tg M s (bg M s (rwc M s i) + b)) : Rat)) (nb M s (rwc M s i)) hb (fun j hj => Rat.mul_nonneg (Rat.le_of_lt (hC.chq_pos hc hj)) (by
        rcases hf (tg M s (bg M s (rwc M s i) + j)) with q | q <;> rw [q] <;> decide))
      have a1 : chq M s (bg M s (rwc M s i) + b) * (f (tg M s (bg M s (rwc M s i) + b)) : Rat) ≤ cw M s (rwc M s i) (fun k => (f k : Rat)) := a
      rw [h1] at a1
      have z1 : ((1 : Int) : Rat) = 1 := rfl
      rw [z1] at a1
      grind
    by_cases q : mI M (s + 22) (tg M s (bg M s (rwc M s i) + b)) = 3
    · left
      have a := hone (isT M s) (fun k => isT_01) (if_pos q)
      rw [← rowp_m (m := m)] at a
      have b := rowp_le hE hG hC hi
      rw [sr] at b
      grind
    · right
      obtain ⟨r1, r2, r3⟩ := hE.2.1 _ htl ⟨hb1, q⟩
      have euj : uu M s (mI M (s + 40) (tg M s (bg M s (rwc M s i) + b))).toNat = tg M s (bg M s (rwc M s i) + b) := by unfold uu; omega
      refine ⟨(mI M (s + 40) (tg M s (bg M s (rwc M s i) + b))).toNat, by omega, by rw [euj]; exact hb2, ?_⟩
      have a := hone (isU M s (mI M (s + 40) (tg M s (bg M s (rwc M s i) + b))).toNat) (fun k => isU_01) (if_pos euj.symm)
      unfold rowp
      rw [if_neg (by omega)]
      exact a
  refine ⟨⟨h, g⟩, hint, fun r hr => by have := hD1 r hr; omega, fun i k hi hk => ?_⟩
  have hp := det_pos g hint (fun r hr => by have := hD1 r hr; omega) k hk
  have hN : ∀ r c, r < m → c ≤ m → 0 ≤ rowN M s m r c := fun r c hr hc => by
    have a : (0 : Rat) ≤ (rowN M s m r c : Rat) := by
      rw [← hint r c hr hc]
      exact Rat.mul_nonneg (Rat.le_of_lt (Rat.intCast_pos.2 (by have := hD1 r hr; omega))) (rowp_nn hE hG hC hr)
    exact ic_le (by have : ((0 : Int) : Rat) = 0 := rfl; rw [this]; exact a)
  have hs := det_small (k := k) (N := rowN M s m) (D := rowD M s) (fun r c hr hc => hN r c (by omega) (by omega)) (fun r hr => by
    refine ⟨by have := hD1 r (by omega); omega, ?_⟩
    refine ic_le ?_
    have e1 : ((sm (fun c => rowN M s m r c) k : Int) : Rat) = (rowD M s r : Rat) * sr (rowp M s m r) k := by
      rw [sm_cast, ← sr_mul]
      exact sr_congr k (fun c hc => (hint r c (by omega) (by omega)).symm)
    rw [e1]
    have a := rowp_le hE hG hC (i := r) (by omega)
    have b := sr_part (f := rowp M s m r) (a := k) (m + 1 - k) (fun c hc => rowp_nn hE hG hC (by omega))
    rw [show k + (m + 1 - k) = m + 1 by first | rfl | omega] at b
    have c := Rat.mul_nonneg (a := (rowD M s r : Rat)) (b := 1 - sr (rowp M s m r) k) (Rat.le_of_lt (Rat.intCast_pos.2 (by have := hD1 r (by omega); omega))) (by grind)
    grind)
  have hpw := pr_pow (f := fun r => 2 * rowD M s r) (w := w) k (fun r hr => ⟨by have := hD1 r (by omega); omega, (hw r (by omega)).2, (hw r (by omega)).1⟩)
  have hsp := sm_part (f := w) (a := k) (m - k) (fun c hc => (hw c (by omega)).1)
  rw [show k + (m - k) = m by first | rfl | omega] at hsp
  have h480 : (2 : Int) ^ (sm w k).toNat ≤ 2 ^ 480 := two_pow_le (by omega)
  have hdi := hD1 i hi
  have hfin : rowD M s i * det k (bm (rowN M s m) (rowD M s)) ≤ 1000000000 * 2 ^ 480 := Int.mul_le_mul (by omega) (by omega) (by omega) (by omega)
  have := p510
  have := p480
  exact ⟨by omega, by omega⟩
end SY
end
section
/-! The solver: settle. -/
/-- 512 fractions have room -/
def Rm (M : mM) (s e : Nat) : Prop := ∀ i, i < 512 → Ft M (s + e + 25 * i) 56
abbrev eS (s e : Nat) : Nat → Prop := fun x => s + e ≤ x ∧ x < s + e + 12800 ∧ (x - (s + e)) % 25 ≤ 4
theorem Rm.out {S : Nat → Prop} {M M' : mM} {s e : Nat} (h : Rm M s e) (k : FI S M M') (hs : ∀ y, S y → y < s + e ∨ s + e + 12780 ≤ y) : Rm M' s e :=
  fun i hi => (h i hi).out k (fun y q => by have := hs y q; omega)
theorem Rm.put {M M' : mM} {s e i : Nat} (h : Rm M s e) (hi : i < 512) (k : FI (fS (s + e + 25 * i)) M M') (h1 : Ft M' (s + e + 25 * i) 56) : Rm M' s e := by
  intro j hj
  by_cases q : j = i
  · rw [q]; exact h1
  · exact (h j hj).out k (fun y w => by have w' : s + e + 25 * i ≤ y ∧ y ≤ s + e + 25 * i + 4 := w; omega)
theorem Xt.put {M M' : mM} {s e n i n' : Nat} {x x' : Nat → Rat} (h : Xt M s e n x) (k : FI (fS (s + e + 25 * i)) M M') (h1 : Fq M' (s + e + 25 * i) 56) (h2 : Fc M' (s + e + 25 * i)) (h3 : fv M' (s + e + 25 * i) = x' i) (hq : ∀ j, j < n' → j = i ∨ (j < n ∧ x' j = x j)) : Xt M' s e n' x' := by
  intro j hj
  by_cases q : j = i
  · rw [q]; exact ⟨h1, h2, h3⟩
  · have w : j < n ∧ x' j = x j := by
      rcases hq j hj with w | w
      · exact absurd w q
      · exact w
    obtain ⟨g1, g2, g3⟩ := h j w.1
    have hs' : ∀ y, fS (s + e + 25 * i) y → y < s + e + 25 * j ∨ s + e + 25 * j + 4 < y := fun y z => by have z' : s + e + 25 * i ≤ y ∧ y ≤ s + e + 25 * i + 4 := z; omega
    exact ⟨(g1.out k hs').1, g2.out g1 k hs', by rw [fv_out g1 k hs', g3, w.2]⟩
theorem Xt.congr {M : mM} {s e n : Nat} {x x' : Nat → Rat} (h : Xt M s e n x) (hq : ∀ j, j < n → x' j = x j) : Xt M s e n x' := fun j hj => by
  obtain ⟨g1, g2, g3⟩ := h j hj
  exact ⟨g1, g2, g3.trans (hq j hj).symm⟩
/-- the values -/
def valx (M : mM) (s m : Nat) : Nat → Rat := fun k => if mI M (s + 36) k ≠ 0 ∧ mI M (s + 22) k ≠ 3 then gq (rowp M s m) m (mI M (s + 40) k).toNat m else if mI M (s + 22) k = 3 then 1 else 0
/-- the values while they are copied -/
def valr (M : mM) (s m r : Nat) : Nat → Rat := fun k => if (mI M (s + 36) k ≠ 0 ∧ mI M (s + 22) k ≠ 3) ∧ (mI M (s + 40) k).toNat < r then gq (rowp M s m) m (mI M (s + 40) k).toNat m else if mI M (s + 22) k = 3 then 1 else 0
theorem valx_y {M : mM} {s m k : Nat} (h : mI M (s + 36) k ≠ 0 ∧ mI M (s + 22) k ≠ 3) : valx M s m k = gq (rowp M s m) m (mI M (s + 40) k).toNat m := if_pos h
theorem valx_n {M : mM} {s m k : Nat} (h : ¬ (mI M (s + 36) k ≠ 0 ∧ mI M (s + 22) k ≠ 3)) : valx M s m k = if mI M (s + 22) k = 3 then 1 else 0 := if_neg h
theorem valr_y {M : mM} {s m k r : Nat} (h : mI M (s + 36) k ≠ 0 ∧ mI M (s + 22) k ≠ 3) (h2 : (mI M (s + 40) k).toNat < r) : valr M s m r k = gq (rowp M s m) m (mI M (s + 40) k).toNat m := if_pos ⟨h, h2⟩
theorem valr_n {M : mM} {s m k r : Nat} (h : ¬ ((mI M (s + 36) k ≠ 0 ∧ mI M (s + 22) k ≠ 3) ∧ (mI M (s + 40) k).toNat < r)) : valr M s m r k = if mI M (s + 22) k = 3 then 1 else 0 := if_neg h
section VX
variable {M : mM} {s m : Nat} {N : Nat → Nat → Int} {D : Nat → Int}
theorem valx_01 (hE : Enu M s m) (hS : Sy m (rowp M s m) N D) {k : Nat} (hk : (k : Int) < mI M s 1) : 0 ≤ valx M s m k ∧ valx M s m k ≤ 1 := by
  unfold valx
  by_cases q : mI M (s + 36) k ≠ 0 ∧ mI M (s + 22) k ≠ 3
  · rw [if_pos q]
    obtain ⟨r1, r2, r3⟩ := hE.2.1 k hk q
    exact hS.q01 (by omega) (by omega) (by omega)
  · rw [if_neg q]
    split <;> exact ⟨by decide, by decide⟩
theorem valx_eq (hE : Enu M s m) (hG : GW M s) (hS : Sy m (rowp M s m) N D) {k : Nat} (hk : (k : Int) < mI M s 1) (hu : unk M s k) : valx M s m k = cw M s (cx M s k (pl M s k)) (valx M s m) := by
  obtain ⟨r1, r2, r3⟩ := hE.2.1 k hk hu
  have hi : (mI M (s + 40) k).toNat < m := by omega
  have euj : uu M s (mI M (s + 40) k).toNat = k := by unfold uu; omega
  obtain ⟨⟨h, g⟩, -⟩ := hS
  have e := gq_eq g m (by omega) (mI M (s + 40) k).toNat m
  have e1 : valx M s m k = gq (rowp M s m) m (mI M (s + 40) k).toNat m := if_pos hu
  rw [rowp_sum hE hG hi (fun t => gq (rowp M s m) m t m), rowp_m, ← cw_add] at e
  rw [e1, e]
  have e2 : rwc M s (mI M (s + 40) k).toNat = cx M s k (pl M s k) := by unfold rwc; rw [euj]
  rw [e2]
  refine cw_congr (fun b hb => ?_)
  generalize tg M s (bg M s (cx M s k (pl M s k)) + b) = t
  show (isT M s t : Rat) + eU M s (fun t => gq (rowp M s m) m t m) t = valx M s m t
  unfold isT eU valx
  have z0 : ((0 : Int) : Rat) = 0 := rfl
  have z1 : ((1 : Int) : Rat) = 1 := rfl
  by_cases q : mI M (s + 22) t = 3
  · rw [if_pos q, if_neg (fun w => w.2 q), if_neg (fun w => w.2 q), if_pos q, z1]; grind
  · rw [if_neg q, if_neg q, z0]
    by_cases z : mI M (s + 36) t ≠ 0 ∧ mI M (s + 22) t ≠ 3
    · rw [if_pos z]; exact Rat.zero_add _
    · rw [if_neg z]; exact Rat.zero_add _
end VX
abbrev tS (s : Nat) : Nat → Prop := fun x => (s + 2 ≤ x ∧ x ≤ s + 21) ∨ (s + 42 ≤ x ∧ x ≤ s + 51) ∨ (s + 57 ≤ x ∧ x ≤ s + 61) ∨ eS s 88 x ∨ (s + 12868 ≤ x ∧ x ≤ s + 21067)
section VS
variable {G : mG} {d s m n : Nat} {M : mM} {N : Nat → Nat → Int} {D : Nat → Int}
theorem s_MS_settle (hm : m ≤ 40) (hO : mOk M) (hV : Vk M s) (hG : GW M s) (hC : GB M s) (hn : mI M s 1 = n) (h24 : mI M s 24 = m) (hE : Enu M s m) (hS : Sy m (rowp M s m) N D) (hW : Wk M s) (hT : Ct M s) (hR : Rm M s 88) :
    Cv G y_MS_settle (d + 7) [vr s] M (fun M' => mOk M' ∧ FI (tS s) M M' ∧ Wk M' s ∧ Ct M' s ∧ Rm M' s 88 ∧ Xt M' s 88 n (valx M s m)) := by
  have h2 := hG.2.1
  have h1 := hG.1
  refine k_MS_settle hO ⟨hV.k0, (s_MS_writeRows (d := d + 1) hm hO hV hG hC h24 hE hW hT).mono (fun M1 g1 => ?_)⟩
  obtain ⟨o1, f1, W1, T1, B1⟩ := g1
  have V1 := hV.fi f1
  have fe1 := f1.2.2.2.2.2.2
  refine ⟨o1, V1.k0, (s_MS_solveRows (d := d) hm o1 V1 (by rw [fe1 s (by omega), h24]) W1 hS B1).mono (fun M2 g2 => ?_)⟩
  obtain ⟨o2, f2, W2, B2⟩ := g2
  have V2 := V1.fi f2
  have f12 : FI (tS s) M M2 := (f1.mono (fun y q => by omega)).trans (f2.mono (fun y q => by omega))
  have R2 : Rm M2 s 88 := (hR.out f1 (fun y q => by omega)).out f2 (fun y q => by omega)
  have T2 : Ct M2 s := fun i j hi hj => by
    by_cases q : i < m ∧ j ≤ m
    · exact (B2 i j q.1 q.2).1.ft
    · exact (T1 i j hi hj).out f2 (fun x w => by unfold cel; omega)
  refine ⟨o2, ?_⟩
  suffices H : ∀ (t i : Nat) (M3 : mM), i + t = n → mOk M3 → FI (tS s) M M3 → Wk M3 s → Ct M3 s → Tb M3 s m (tA (rowp M s m) m m) → Rm M3 s 88 → Xt M3 s 88 i (valr M s m 0) → h_MS_settle_10 G (d + 6) s i M3 (fun M' => mOk M' ∧ FI (tS s) M M' ∧ Wk M' s ∧ Ct M' s ∧ Rm M' s 88 ∧ Xt M' s 88 n (valx M s m)) from
    H n 0 M2 (by omega) o2 f12 W2 T2 B2 R2 (fun k hk => by omega)
  clear T2 R2 f12 V2 B2 W2 f2 o2 M2 fe1 V1 B1 T1 W1 f1 o1 M1
  intro t
  induction t with
  | zero =>
    intro i M3 hi o3 f3 W3 T3 B3 R3 X3
    have ei : i = n := by omega
    subst ei
    have V3 := hV.fi f3
    have fe := f3.2.2.2.2.2.2
    refine k_MS_settle_10 o3 ⟨by omega, by omega⟩ ?_
    rw [fe s (by omega), hn]
    refine ⟨V3.k0, fun _ => ?_, fun q => by omega⟩
    suffices H : ∀ (t r : Nat) (M3 : mM), r + t = m → mOk M3 → FI (tS s) M M3 → Wk M3 s → Ct M3 s → Tb M3 s m (tA (rowp M s m) m m) → Rm M3 s 88 → Xt M3 s 88 i (valr M s m r) → h_MS_settle_51 G (d + 6) s r M3 (fun M' => mOk M' ∧ FI (tS s) M M' ∧ Wk M' s ∧ Ct M' s ∧ Rm M' s 88 ∧ Xt M' s 88 i (valx M s m)) from
      H m 0 M3 (by omega) o3 f3 W3 T3 B3 R3 X3
    clear fe V3 X3 R3 B3 T3 W3 f3 o3 M3
    intro t
    induction t with
    | zero =>
      intro r M3 hr o3 f3 W3 T3 B3 R3 X3
      have er : r = m := by omega
      subst er
      have V3 := hV.fi f3
      have fe := f3.2.2.2.2.2.2
      refine k_MS_settle_51 o3 ⟨by omega, by omega⟩ ?_
      rw [fe s (by omega), h24]
      refine ⟨V3.k0, fun _ => ⟨o3, f3, W3, T3, R3, X3.congr (fun k hk => ?_)⟩, fun q => by omega⟩
      by_cases q : mI M (s + 36) k ≠ 0 ∧ mI M (s + 22) k ≠ 3
      · obtain ⟨r1, r2, r3⟩ := hE.2.1 k (by omega) q
        rw [valx_y q, valr_y q (by omega)]
      · rw [valx_n q, valr_n (fun w => q w.1)]
    | succ t ih =>
      intro r M3 hr o3 f3 W3 T3 B3 R3 X3
      have hrm : r < m := by omega
      have V3 := hV.fi f3
      have fe := f3.2.2.2.2.2.2
      obtain ⟨u1, u2, u3, u4⟩ := hE.1 r hrm
      have huu : (mI M (s + 39) r).toNat = uu M s r := rfl
      have huu2 : (uu M s r : Int) = mI M (s + 39) r := by unfold uu; omega
      refine k_MS_settle_51 o3 ⟨by omega, by omega⟩ ?_
      rw [V3.r22, V3.r21, V3.n39, V3.n38, fe s (by omega), h24, fe (s + 39) (by omega), Int.toNat_natCast, huu, V3.f38 _ (by omega)]
      refine ⟨V3.k0, fun q => by omega, fun _ => ⟨V3.k39, by omega, V3.k38, by omega, (s_MS_cell (by omega) (by omega) o3 V3).mono (fun x M4 h4 => ?_)⟩⟩
      obtain ⟨e4, hx⟩ := h4
      subst e4 hx
      have cr := B3 r m hrm (by omega)
      have rk := R3 (uu M s r) (by omega)
      refine ⟨o3, rk.1.1, (s_MF_copy o3 rk cr.1 (by unfold cel; omega) cr.1.2.1.1.2.2.2.2.2.2 cr.1.2.2.1.1.2.2.2.2.2.2).mono (fun M5 h5 => ?_)⟩
      obtain ⟨o5, f5, F5, w4, w5, w6⟩ := h5
      have C5 := fc_copy cr.2.1 w4 w5 w6
      have f5' : FI (eS s 88) M4 M5 := f5.mono (fun y q => by have q' : s + 88 + 25 * uu M s r ≤ y ∧ y ≤ s + 88 + 25 * uu M s r + 4 := q; omega)
      have e5 : fv M5 (s + 88 + 25 * uu M s r) = valr M s m (r + 1) (uu M s r) := by
        rw [C5.2, cr.2.2]
        unfold valr
        rw [if_pos ⟨u3, by omega⟩, u4, Int.toNat_natCast]
        unfold tA
        rw [if_pos rfl]
      have X5 := X3.put (x' := valr M s m (r + 1)) (n' := i) f5 F5 C5.1 e5 (fun j hj => by
        by_cases z : j = uu M s r
        · exact Or.inl z
        · refine Or.inr ⟨hj, ?_⟩
          by_cases q : mI M (s + 36) j ≠ 0 ∧ mI M (s + 22) j ≠ 3
          · obtain ⟨r1, r2, r3⟩ := hE.2.1 j (by omega) q
            have hne : (mI M (s + 40) j).toNat ≠ r := fun y => z (by unfold uu; rw [y] at r3; omega)
            by_cases y : (mI M (s + 40) j).toNat < r
            · rw [valr_y q (by omega), valr_y q y]
            · rw [valr_n (fun w => y (by have := w.2; omega)), valr_n (fun w => y w.2)]
          · rw [valr_n (fun w => q w.1), valr_n (fun w => q w.1)])
      exact ⟨o5, ih (r + 1) M5 (by omega) o5 (f3.trans (f5'.mono (fun y q => Or.inr (Or.inr (Or.inr (Or.inl q)))))) (W3.far f5' (fun y q => by have := q.1; omega)) (T3.out f5' (fun y q => by have := q.2.1; have := q.1; have := q.2.2; omega)) (B3.out f5' (fun y q => by have := q.2.1; have := q.1; have := q.2.2; omega)) (R3.put (by omega) f5 F5.ft) X5⟩
  | succ t ih =>
    intro i M3 hi o3 f3 W3 T3 B3 R3 X3
    have V3 := hV.fi f3
    have fe := f3.2.2.2.2.2.2
    have rk := R3 i (by omega)
    refine k_MS_settle_10 o3 ⟨by omega, by omega⟩ ?_
    rw [V3.r21, V3.r4, V3.n38, V3.n22, fe s (by omega), hn, fe (s + 22) (by omega), Int.toNat_natCast, V3.f38 _ (by omega)]
    refine ⟨V3.k0, fun q => by omega, fun _ => ⟨V3.k38, by omega, V3.k22, by omega, fun v hv => ⟨rk.1.1, (s_MF_set ⟨by split at hv <;> omega, by split at hv <;> omega⟩ (by split at hv <;> omega) ⟨by omega, by omega⟩ (by omega) o3 rk (by omega)).mono (fun M5 h5 => ?_)⟩⟩⟩
    obtain ⟨o5, f5, F5, y1, y2, y3⟩ := h5
    have C5 := fc_one F5 y2 (fun q => y3 (by omega))
    have f5' : FI (eS s 88) M3 M5 := f5.mono (fun y q => by have q' : s + 88 + 25 * i ≤ y ∧ y ≤ s + 88 + 25 * i + 4 := q; omega)
    have e5 : fv M5 (s + 88 + 25 * i) = valr M s m 0 i := by
      rw [fv_set y1 y2]
      have z0 : ((0 : Int) : Rat) = 0 := rfl
      have z1 : ((1 : Int) : Rat) = 1 := rfl
      unfold valr
      rw [if_neg (fun w => by have := w.2; omega), z1]
      by_cases q : mI M (s + 22) i = 3
      · rw [if_pos q] at hv ⊢
        rw [hv, z1]; grind
      · rw [if_neg q] at hv ⊢
        rw [hv, z0]; grind
    have X5 := X3.put (x' := valr M s m 0) (n' := i + 1) f5 F5 C5 e5 (fun j hj => by
      by_cases z : j = i
      · exact Or.inl z
      · exact Or.inr ⟨by omega, rfl⟩)
    exact ⟨o5, ih (i + 1) M5 (by omega) o5 (f3.trans (f5'.mono (fun y q => Or.inr (Or.inr (Or.inr (Or.inl q)))))) (W3.far f5' (fun y q => by have := q.1; omega)) (T3.out f5' (fun y q => by have := q.2.1; have := q.1; have := q.2.2; omega)) (B3.out f5' (fun y q => by have := q.2.1; have := q.1; have := q.2.2; omega)) (R3.put (by omega) f5 F5.ft) X5⟩
end VS
end
section
/-! The solver: improve. -/
theorem exF : ∀ n : Nat, ∃ F : Int, 0 < F ∧ ∀ e : Int, 0 < e → e < n → e ∣ F
  | 0 => ⟨1, by omega, fun e h1 h2 => by omega⟩
  | n + 1 => by
    obtain ⟨F, h0, h⟩ := exF n
    by_cases q : n = 0
    · exact ⟨F, h0, fun e h1 h2 => by omega⟩
    · refine ⟨F * n, Int.mul_pos h0 (by omega), fun e h1 h2 => ?_⟩
      by_cases z : e = n
      · rw [z]; exact Int.dvd_mul_left _ _
      · exact Int.dvd_trans (h e h1 (by omega)) (Int.dvd_mul_right _ _)
/-- F makes whole numbers of all small values -/
def Fall (F : Int) : Prop := 0 < F ∧ ∀ e : Int, 0 < e → e < 16777216 ^ 56 → e ∣ F
theorem fall_ex : ∃ F, Fall F := by
  obtain ⟨F, h0, h⟩ := exF ((16777216 : Int) ^ 56).toNat
  refine ⟨F, h0, fun e h1 h2 => h e h1 ?_⟩
  rw [Int.toNat_of_nonneg (Int.pow_nonneg (by omega))]
  exact h2
theorem Fall.int {F : Int} (h : Fall F) {x : Rat} (hx : Sml x) : ∃ z : Int, x * (F : Rat) = (z : Rat) := by
  obtain ⟨E, z, h0, h1, h2, -, -⟩ := hx
  obtain ⟨t, ht⟩ := h.2 E h0 h1
  refine ⟨z * t, ?_⟩
  rw [ht, Rat.intCast_mul, Rat.intCast_mul, ← h2]
  grind
theorem fv_wv {M : mM} {f r : Nat} (hF : Fq M f r) (h : 0 ≤ fv M f) : sn M f = wv M (f + 1) := by
  have p : 0 < sd M f := hF.2.2.2.2
  have e := fv_sd hF
  have a := Rat.mul_nonneg h (Rat.le_of_lt (Rat.intCast_pos.2 p))
  rw [e] at a
  have b : 0 ≤ sn M f := ic_le (by have : ((0 : Int) : Rat) = 0 := rfl; rw [this]; exact a)
  have hn := hF.2.1.nonneg
  unfold sn at b ⊢
  split at b <;> (try rw [if_pos (by assumption)]) <;> (try rw [if_neg (by assumption)]) <;> omega
theorem ic_lt {x y : Int} : (x : Rat) < (y : Rat) ↔ x < y := by exact_mod_cast Iff.rfl
theorem fv_cmp {M : mM} {a b ra rb : Nat} (hA : Fq M a ra) (hB : Fq M b rb) (ha : 0 ≤ fv M a) (hb : 0 ≤ fv M b) : (wv M (a + 1) * wv M (b + 3) < wv M (b + 1) * wv M (a + 3) ↔ fv M a < fv M b) ∧ (wv M (a + 1) * wv M (b + 3) = wv M (b + 1) * wv M (a + 3) ↔ fv M a = fv M b) := by
  have p1 : 0 < sd M a := hA.2.2.2.2
  have p2 : 0 < sd M b := hB.2.2.2.2
  have e1 := fv_sd hA
  have e2 := fv_sd hB
  rw [fv_wv hA ha] at e1
  rw [fv_wv hB hb] at e2
  have q1 : (0 : Rat) < (sd M a : Rat) := Rat.intCast_pos.2 p1
  have q2 : (0 : Rat) < (sd M b : Rat) := Rat.intCast_pos.2 p2
  have s1 : sd M a = wv M (a + 3) := rfl
  have s2 : sd M b = wv M (b + 3) := rfl
  rw [s1] at e1 q1
  rw [s2] at e2 q2
  have c1 : ((wv M (a + 1) * wv M (b + 3) : Int) : Rat) = fv M a * ((wv M (a + 3) : Rat) * (wv M (b + 3) : Rat)) := by rw [Rat.intCast_mul, ← e1]; grind
  have c2 : ((wv M (b + 1) * wv M (a + 3) : Int) : Rat) = fv M b * ((wv M (a + 3) : Rat) * (wv M (b + 3) : Rat)) := by rw [Rat.intCast_mul, ← e2]; grind
  have hp := Rat.mul_pos q1 q2
  generalize (wv M (a + 3) : Rat) * (wv M (b + 3) : Rat) = P at *
  generalize fv M a = x at *
  generalize fv M b = y at *
  clear e1 e2 q1 q2
  refine ⟨⟨fun h => ?_, fun h => ?_⟩, ⟨fun h => ?_, fun h => ?_⟩⟩
  · have h' := ic_lt.2 h
    rw [c1, c2] at h'
    refine Classical.byContradiction (fun w => ?_)
    have a := Rat.mul_nonneg (a := x - y) (b := P) (by grind) (Rat.le_of_lt hp)
    grind
  · refine ic_lt.1 ?_
    rw [c1, c2]
    have a := Rat.mul_pos (a := y - x) (b := P) (by grind) hp
    grind
  · have h' : ((wv M (a + 1) * wv M (b + 3) : Int) : Rat) = ((wv M (b + 1) * wv M (a + 3) : Int) : Rat) := by rw [h]
    rw [c1, c2] at h'
    have i := Rat.mul_inv_cancel P (by grind)
    have e : x * P * P⁻¹ = y * P * P⁻¹ := by rw [h']
    grind
  · have h' : ((wv M (a + 1) * wv M (b + 3) : Int) : Rat) = ((wv M (b + 1) * wv M (a + 3) : Int) : Rat) := by rw [c1, c2, h]
    exact_mod_cast h'
/-- command i of state k is better for the player -/
def betP (M : mM) (s : Nat) (x : Nat → Rat) (q : Int) (k i : Nat) : Prop := if q = 1 then x k < cw M s (cx M s k i) x else cw M s (cx M s k i) x < x k
abbrev iS (s : Nat) : Nat → Prop := fun x => wS s x ∨ x = s + 35
/-- what improve leaves behind -/
def imQ (M : mM) (s : Nat) (x : Nat → Rat) (q : Int) (k : Nat) (r : Int) (M' : mM) : Prop := mOk M' ∧ Wk M' s ∧ FI (iS s) M M' ∧ ((r = 0 ∧ mI M' (s + 35) = mI M (s + 35) ∧ (mI M (s + 22) k = q → ∀ i : Nat, (i : Int) < mny M s k → mayP M s k i → ¬ betP M s x q k i)) ∨ (r = 1 ∧ mI M (s + 22) k = q ∧ ∃ i : Nat, (i : Int) < mny M s k ∧ mayP M s k i ∧ betP M s x q k i ∧ ∀ j, mI M' (s + 35) j = if j = k then (i : Int) else mI M (s + 35) j))
section VS
variable {G : mG} {d s n : Nat} {M : mM} {x : Nat → Rat}
theorem s_MS_improve {k : Nat} {q : Int} (hq : q = 1 ∨ q = 2) (hO : mOk M) (hV : Vk M s) (hG : GW M s) (hC : GB M s) (hn : mI M s 1 = n) (hk : (k : Int) < mI M s 1) (hW : Wk M s) (hX : Xt M s 88 n x) (h01 : ∀ t, t < n → 0 ≤ x t ∧ x t ≤ 1) :
    Ci G y_MS_improve (d + 6) [vr s, vi k, vi q] M (fun r M' => imQ M s x q k r M') := by
  have h2 := hG.2.1
  have h3 := hG.2.2.1
  have hc := hG.cmd hk
  have hm0 : 0 ≤ mny M s k ∧ mny M s k ≤ 4200 := by unfold mny; omega
  refine k_MS_improve hO ⟨by omega, by omega⟩ ⟨by omega, by omega⟩ ?_
  suffices H : ∀ (r i : Nat) (M2 : mM), r = (mny M s k).toNat - i → mOk M2 → FI (wS s) M M2 → Wk M2 s → (mI M (s + 22) k = q → ∀ i' : Nat, i' < i → (i' : Int) < mny M s k → mayP M s k i' → ¬ betP M s x q k i') → (i : Int) ≤ mny M s k → h_MS_improve_2 G (d + 5) s k q i M2 (fun r M' => imQ M s x q k r M') from
    H _ 0 M rfl hO FI.refl hW (fun _ i' hi' => by omega) (by omega)
  intro r
  induction r with
  | zero =>
    intro i M2 hr o2 f2 W2 hB hi
    have V2 := hV.fi f2
    have G2 : sameG M M2 s := sameG.of f2 (by omega) (fun y _ _ => by omega)
    have fe := f2.2.2.2.2.2.2
    refine k_MS_improve_2 o2 ⟨by omega, by omega⟩ ⟨by omega, by omega⟩ ⟨by omega, by omega⟩ ?_
    rw [V2.r4, V2.n22, fe (s + 22) (by omega), Int.toNat_natCast]
    refine ⟨V2.k0, V2.k22, by omega, fun e => (s_MS_many o2 V2 (G2.gw hG) (by rw [G2.1]; exact hk)).mono (fun y M3 h3' => ?_), fun e => ⟨o2, W2, f2.mono (fun y w => Or.inl w), Or.inl ⟨rfl, fe (s + 35) (by omega), fun w => absurd w e⟩⟩⟩
    obtain ⟨e3, hy⟩ := h3'
    subst e3
    rw [G2.hm] at hy
    exact ⟨⟨by omega, by omega⟩, o2, fun _ => ⟨o2, W2, f2.mono (fun y w => Or.inl w), Or.inl ⟨rfl, fe (s + 35) (by omega), fun w i' hi' => hB w i' (by omega) hi'⟩⟩, fun w => by omega⟩
  | succ r ih =>
    intro i M2 hr o2 f2 W2 hB hi
    have V2 := hV.fi f2
    have G2 : sameG M M2 s := sameG.of f2 (by omega) (fun y _ _ => by omega)
    have fe := f2.2.2.2.2.2.2
    have GG := G2.gw hG
    have hk2 : (k : Int) < mI M2 s 1 := by rw [G2.1]; exact hk
    have him : (i : Int) < mny M s k := by omega
    have hmay : mayP M2 s k i ↔ mayP M s k i := by
      unfold mayP
      rw [fe s (by omega), fe (s + 22) (by omega), fe (s + 32) (by omega)]
    refine k_MS_improve_2 o2 ⟨by omega, by omega⟩ ⟨by omega, by omega⟩ ⟨by omega, by omega⟩ ?_
    rw [V2.r4, V2.n22, fe (s + 22) (by omega), Int.toNat_natCast]
    refine ⟨V2.k0, V2.k22, by omega, fun e => (s_MS_many o2 V2 GG hk2).mono (fun y M3 h3' => ?_), fun e => ⟨o2, W2, f2.mono (fun y w => Or.inl w), Or.inl ⟨rfl, fe (s + 35) (by omega), fun w => absurd w e⟩⟩⟩
    obtain ⟨e3, hy⟩ := h3'
    subst e3
    rw [G2.hm] at hy
    refine ⟨⟨by omega, by omega⟩, o2, fun w => by omega, fun _ => ⟨V2.k0, (s_MS_may (by omega) o2 V2 GG hk2).mono (fun z M4 h4 => ?_)⟩⟩
    obtain ⟨e4, hz, hzq⟩ := h4
    subst e4
    refine ⟨⟨by omega, by omega⟩, o2, fun w => ?_, fun w => ?_⟩
    · refine ih (i + 1) M4 (by omega) o2 f2 W2 (fun w' i' hi' hi2 hm => ?_) (by omega)
      by_cases z' : i' = i
      · subst z'
        exact absurd w (hzq.2 (hmay.2 hm))
      · exact hB w' i' (by omega) hi2 hm
    · have hmi : mayP M s k i := hmay.1 (hzq.1 w)
      have X2 := hX.out f2 (fun y w => by omega)
      rw [V2.r21]
      refine ⟨V2.k0, (s_MS_worthOf (d := d) (n := n) (Or.inl ⟨rfl, rfl, rfl⟩) o2 V2 GG (G2.gb hC) (by rw [G2.1]; exact hn) hk2 (by rw [G2.hm]; exact him) W2 X2 h01).mono (fun M5 h5 => ?_)⟩
      obtain ⟨o5, f5, W5, F5, C5, v5, s5⟩ := h5
      rw [G2.hw, G2.hx] at v5 s5
      have V5 := V2.fi f5
      have f25 := f2.trans f5
      have fe5 := f25.2.2.2.2.2.2
      have X5 := X2.out f5 (fun y w => by omega)
      have xk := X5 k (by omega)
      have sz := smp_size F5 C5 (by rw [v5]; exact s5)
      have z3 := xk.1.2.1.1.2.2.2.2.2.2
      have z4 := xk.1.2.2.1.1.2.2.2.2.2.2
      have hx0 := h01 k (by omega)
      have hcx : (cx M s k i : Int) < mI M s 2 := by
        have := him
        unfold mny at this
        unfold cx
        omega
      have hw0 : 0 ≤ cw M s (cx M s k i) x := by
        have a := cw_le hC hcx (f := fun _ => 0) (g := x) (fun b hb => (h01 _ (by have := tg_lt hG hcx hb; omega)).1)
        rw [cw_const hC hcx] at a
        exact a
      rw [V5.r21, V5.r0, V5.r28, V5.n38, V5.f38 k (by omega)]
      refine ⟨o5, V5.k0, V5.k38, by omega, W5.1.1.1, (s_MU_compare (d := d + 3) o5 W5.1 F5 xk.1 (by unfold suO; omega) (by unfold suO; omega) (by omega) (by omega)).mono (fun c M6 h6 => ?_)⟩
      obtain ⟨o6, f6, Z6, hcv⟩ := h6
      have hcm := fv_cmp F5 xk.1 (by rw [v5]; exact hw0) (by rw [xk.2.2]; exact hx0.1)
      rw [v5, xk.2.2] at hcm
      have f6' : FI (wS s) M5 M6 := f6.mono (fun y w => by omega)
      have V6 := V5.fi f6
      have W6 : Wk M6 s := W5.out f6 Z6 (fun y w => by omega)
      have f26 := f25.trans f6'
      have fe6 := f26.2.2.2.2.2.2
      have hnext : ¬ betP M s x q k i → h_MS_improve_2 G (d + 5) s k q ((i : Int) + 1) M6 (fun r M' => imQ M s x q k r M') := fun hb => by
        refine ih (i + 1) M6 (by omega) o6 f26 W6 (fun w' i' hi' hi2 hm => ?_) (by omega)
        by_cases z' : i' = i
        · subst z'; exact hb
        · exact hB w' i' (by omega) hi2 hm
      have hend : betP M s x q k i → ∀ M7, M7 = mUI M6 (s + 35) k i → imQ M s x q k 1 M7 := fun hb M7 e7 => by
        have f7 : FI (fun y => y = s + 35) M6 M7 := by rw [e7]; exact FI.ui rfl
        have o7 : mOk M7 := by rw [e7]; exact mOk_UI o6 ⟨by omega, by omega⟩
        refine ⟨o7, W6.far f7 (fun y w => by omega), (f26.mono (fun y w => Or.inl w)).trans (f7.mono (fun y w => Or.inr w)), Or.inr ⟨rfl, e, i, him, hmi, hb, fun j => ?_⟩⟩
        rw [e7, mI_UI, fe6 (s + 35) (by omega)]
        by_cases z' : j = k
        · rw [if_pos ⟨rfl, z'⟩, if_pos z']
        · rw [if_neg (fun w => z' w.2), if_neg z']
      have hc3 : c = -1 ∨ c = 0 ∨ c = 1 := by split at hcv <;> (try split at hcv) <;> omega
      rw [V6.r18, V6.n35]
      refine ⟨⟨by omega, by omega⟩, o6, fun w1 => ⟨fun w2 => hnext ?_, fun w2 => ⟨V6.k0, V6.k35, by omega, hend ?_⟩⟩, fun w1 => ⟨fun w2 => hnext ?_, fun w2 => ⟨V6.k0, V6.k35, by omega, hend ?_⟩⟩⟩
      · unfold betP
        rw [if_pos w1]
        by_cases y1 : wv M5 (s + 52 + 1) * wv M5 (s + 88 + 25 * k + 3) < wv M5 (s + 88 + 25 * k + 1) * wv M5 (s + 52 + 3)
        · have := hcm.1.1 y1; grind
        · rw [if_neg y1] at hcv
          by_cases y2 : wv M5 (s + 52 + 1) * wv M5 (s + 88 + 25 * k + 3) = wv M5 (s + 88 + 25 * k + 1) * wv M5 (s + 52 + 3)
          · have := hcm.2.1 y2; grind
          · rw [if_neg y2] at hcv; omega
      · unfold betP
        rw [if_pos w1]
        by_cases y1 : wv M5 (s + 52 + 1) * wv M5 (s + 88 + 25 * k + 3) < wv M5 (s + 88 + 25 * k + 1) * wv M5 (s + 52 + 3)
        · rw [if_pos y1] at hcv; omega
        · rw [if_neg y1] at hcv
          by_cases y2 : wv M5 (s + 52 + 1) * wv M5 (s + 88 + 25 * k + 3) = wv M5 (s + 88 + 25 * k + 1) * wv M5 (s + 52 + 3)
          · rw [if_pos y2] at hcv; omega
          · have a1 : ¬ cw M s (cx M s k i) x < x k := fun y => y1 (hcm.1.2 y)
            have a2 : ¬ cw M s (cx M s k i) x = x k := fun y => y2 (hcm.2.2 y)
            grind
      · unfold betP
        rw [if_neg w1]
        by_cases y1 : wv M5 (s + 52 + 1) * wv M5 (s + 88 + 25 * k + 3) < wv M5 (s + 88 + 25 * k + 1) * wv M5 (s + 52 + 3)
        · rw [if_pos y1] at hcv; omega
        · exact fun y => y1 (hcm.1.2 y)
      · unfold betP
        rw [if_neg w1]
        by_cases y1 : wv M5 (s + 52 + 1) * wv M5 (s + 88 + 25 * k + 3) < wv M5 (s + 88 + 25 * k + 1) * wv M5 (s + 52 + 3)
        · exact hcm.1.1 y1
        · rw [if_neg y1] at hcv
          split at hcv <;> omega
end VS
end
section
/-! Better choices move the values one way. -/
theorem argmaxP {P : Nat → Prop} {f : Nat → Rat} : ∀ n, (∃ k, k < n ∧ P k) → ∃ k, k < n ∧ P k ∧ ∀ j, j < n → P j → f j ≤ f k
  | 0, h => by obtain ⟨k, h, _⟩ := h; omega
  | n + 1, h => by
    by_cases q : ∃ k, k < n ∧ P k
    · obtain ⟨k, k1, k2, k3⟩ := argmaxP n q
      by_cases z : P n ∧ f k ≤ f n
      · refine ⟨n, by omega, z.1, fun j hj hp => ?_⟩
        by_cases y : j = n
        · rw [y]; exact Rat.le_refl
        · exact Rat.le_trans (k3 j (by omega) hp) z.2
      · refine ⟨k, by omega, k2, fun j hj hp => ?_⟩
        by_cases y : j = n
        · subst y
          have : ¬ f k ≤ f j := fun w => z ⟨hp, w⟩
          grind
        · exact k3 j (by omega) hp
    · obtain ⟨k, k1, k2⟩ := h
      have : k = n := Classical.byContradiction (fun w => q ⟨k, by omega, k2⟩)
      subst this
      refine ⟨k, by omega, k2, fun j hj hp => ?_⟩
      have : j = k := Classical.byContradiction (fun w => q ⟨j, by omega, hp⟩)
      rw [this]; exact Rat.le_refl
theorem argminN {P : Nat → Prop} {f : Nat → Nat} {n : Nat} : ∀ t k, f k = t → k < n → P k → ∃ k, k < n ∧ P k ∧ ∀ j, j < n → P j → f k ≤ f j := by
  intro t
  induction t using Nat.strongRecOn with
  | ind t ih =>
    intro k e hk hp
    by_cases q : ∃ j, j < n ∧ P j ∧ f j < t
    · obtain ⟨j, j1, j2, j3⟩ := q
      exact ih (f j) j3 j rfl j1 j2
    · exact ⟨k, hk, hp, fun j hj hpj => Classical.byContradiction (fun w => q ⟨j, hj, hpj, by omega⟩)⟩
/-- command i of state k may lead into T -/
def LD (M : mM) (s k i : Nat) (T : Nat → Prop) : Prop := ∃ b, b < nb M s (cx M s k i) ∧ T (tg M s (bg M s (cx M s k i) + b))
section UP
variable {M : mM} {s n : Nat} {x : Nat → Rat}
theorem leadQ_LD {T : Nat → Prop} (hG : GW M s) {k i : Nat} (hk : (k : Int) < mI M s 1) (hi : (i : Int) < mny M s k) : leadQ T M s k i ↔ LD M s k i T := by
  have hc := hG.cmd hk
  have hi' := hi
  unfold mny at hi'
  have hcx : (cx M s k i : Int) = mI M (s + 23) k + i := by unfold cx; omega
  have hb := hG.brn (c := cx M s k i) (by omega)
  have e : (mI M (s + 23) k).toNat + i = cx M s k i := rfl
  unfold leadQ LD
  rw [e]
  constructor
  · rintro ⟨b, b1, b2, b3⟩
    refine ⟨b - bg M s (cx M s k i), by unfold nb bg; omega, ?_⟩
    rw [show bg M s (cx M s k i) + (b - bg M s (cx M s k i)) = b by unfold bg; omega]
    exact b3
  · rintro ⟨b, b1, b2⟩
    exact ⟨bg M s (cx M s k i) + b, by unfold bg; omega, by unfold nb bg at *; omega, b2⟩
theorem cx_lt (hG : GW M s) {k i : Nat} (hk : (k : Int) < mI M s 1) (hi : (i : Int) < mny M s k) : (cx M s k i : Int) < mI M s 2 := by
  have hc := hG.cmd hk
  unfold mny at hi
  unfold cx
  omega
/-- all branches of a command lead to where x is at most c; one leads to where it is less -/
theorem cw_below (hG : GW M s) (hC : GB M s) {k i : Nat} (hk : (k : Int) < mI M s 1) (hi : (i : Int) < mny M s k) {c : Rat} {T : Nat → Prop} (hT : ∀ t : Nat, (t : Int) < mI M s 1 → T t → x t ≤ c) (hn : ¬ LD M s k i (fun t => ¬ T t)) : cw M s (cx M s k i) x ≤ c ∧ (LD M s k i (fun t => x t < c) → cw M s (cx M s k i) x < c) := by
  have hcx := cx_lt hG hk hi
  have hb : ∀ b, b < nb M s (cx M s k i) → x (tg M s (bg M s (cx M s k i) + b)) ≤ c := fun b hb => hT _ (tg_lt hG hcx hb) (Classical.byContradiction (fun w => hn ⟨b, hb, w⟩))
  refine ⟨?_, fun hl => ?_⟩
  · have a := cw_le hC hcx (f := x) (g := fun _ => c) hb
    rw [cw_const hC hcx] at a
    exact a
  · obtain ⟨b, b1, b2⟩ := hl
    have a := cw_lt hC hcx (f := x) (g := fun _ => c) hb ⟨b, b1, b2⟩
    rw [cw_const hC hcx] at a
    exact a
theorem up0 (hG : GW M s) (hC : GB M s) (hn : mI M s 1 = n) {A A' : Nat → Prop} {ρ σ σ' : Nat → Nat}
    (hA : ∀ k, k < n → A k → mI M (s + 22) k ≠ 3 → (mI M (s + 22) k = 1 ∧ (σ k : Int) < mny M s k ∧ LD M s k (σ k) (fun t => A t ∧ ρ t < ρ k)) ∨ (mI M (s + 22) k = 2 ∧ 0 < mny M s k ∧ ∀ i : Nat, (i : Int) < mny M s k → mayP M s k i → LD M s k i (fun t => A t ∧ ρ t < ρ k)))
    (hA3 : ∀ k, k < n → mI M (s + 22) k = 3 → A' k)
    (hA' : ∀ k, k < n → ¬ A' k → (mI M (s + 22) k = 1 → (σ' k : Int) < mny M s k → ¬ LD M s k (σ' k) A') ∧ (mI M (s + 22) k = 2 → 0 < mny M s k → ∃ i : Nat, (i : Int) < mny M s k ∧ mayP M s k i ∧ ¬ LD M s k i A'))
    (hx0 : ∀ k, k < n → ¬ A k → mI M (s + 22) k ≠ 3 → x k = 0)
    (hx1 : ∀ k, k < n → A k → mI M (s + 22) k = 1 → x k = cw M s (cx M s k (σ k)) x)
    (hx2 : ∀ k, k < n → A k → mI M (s + 22) k = 2 → ∀ i : Nat, (i : Int) < mny M s k → mayP M s k i → x k ≤ cw M s (cx M s k i) x)
    (hσ : ∀ k, k < n → mI M (s + 22) k = 1 → σ' k = σ k ∨ ((σ' k : Int) < mny M s k ∧ x k < cw M s (cx M s k (σ' k)) x)) :
    ∀ k, k < n → ¬ A' k → x k ≤ 0 := by
  intro k0 hk0 hu0
  refine Classical.byContradiction (fun hpos => ?_)
  obtain ⟨k1, a1, a2, a3⟩ := argmaxP (P := fun k => ¬ A' k) (f := x) n ⟨k0, hk0, hu0⟩
  have hc0 : 0 < x k1 := by have := a3 k0 hk0 hu0; grind
  obtain ⟨k, b1, b2, b3⟩ := argminN (P := fun k => ¬ A' k ∧ x k = x k1) (f := ρ) (n := n) (ρ k1) k1 rfl a1 ⟨a2, rfl⟩
  generalize x k1 = c at *
  obtain ⟨b2, b4⟩ := b2
  have hK3 : mI M (s + 22) k ≠ 3 := fun w => b2 (hA3 k b1 w)
  have hAk : A k := Classical.byContradiction (fun w => by have := hx0 k b1 w hK3; grind)
  have hkI : (k : Int) < mI M s 1 := by omega
  have key : ∀ i : Nat, (i : Int) < mny M s k → ¬ LD M s k i A' → LD M s k i (fun t => A t ∧ ρ t < ρ k) → cw M s (cx M s k i) x < c := fun i hi h1 h2 => by
    have hcx := cx_lt hG hkI hi
    have hb := cw_below (x := x) hG hC hkI hi (c := c) (T := fun t => ¬ A' t) (fun t ht ha => a3 t (by omega) ha) (fun ⟨b, w1, w2⟩ => h1 ⟨b, w1, Classical.byContradiction (fun w3 => w2 w3)⟩)
    refine hb.2 ?_
    obtain ⟨b, w1, w2, w3⟩ := h2
    have htl := tg_lt hG hcx w1
    have hnt : ¬ A' (tg M s (bg M s (cx M s k i) + b)) := fun w => h1 ⟨b, w1, w⟩
    refine ⟨b, w1, ?_⟩
    have h3 := a3 _ (by omega) hnt
    refine Classical.byContradiction (fun w => ?_)
    have h4 := b3 (tg M s (bg M s (cx M s k i) + b)) (by omega) ⟨hnt, by grind⟩
    omega
  rcases hA k b1 hAk hK3 with ⟨c1, c2, c3⟩ | ⟨c1, c2, c3⟩
  · rcases hσ k b1 c1 with e | ⟨e1, e2⟩
    · have h1 := (hA' k b1 b2).1 c1 (by rw [e]; exact c2)
      rw [e] at h1
      have h2 := key (σ k) c2 h1 c3
      have h3 := hx1 k b1 hAk c1
      grind
    · have h1 := (hA' k b1 b2).1 c1 e1
      have hb := cw_below (x := x) hG hC hkI e1 (c := c) (T := fun t => ¬ A' t) (fun t ht ha => a3 t (by omega) ha) (fun ⟨b, w1, w2⟩ => h1 ⟨b, w1, Classical.byContradiction (fun w3 => w2 w3)⟩)
      have := hb.1
      grind
  · obtain ⟨i, d1, d2, d3⟩ := (hA' k b1 b2).2 c1 c2
    have h2 := key i d1 d3 (c3 i d1 d2)
    have h3 := hx2 k b1 hAk c1 i d1 d2
    grind
end UP
section SB
variable {M : mM} {s m n : Nat} {N : Nat → Nat → Int} {D : Nat → Int} {x : Nat → Rat}
theorem cw_sub {f g : Nat → Rat} {c : Nat} : cw M s c (fun k => f k - g k) = cw M s c f - cw M s c g := by
  have e : cw M s c (fun k => f k - g k) = cw M s c (fun k => f k + (-1) * g k) := cw_congr (fun b hb => by grind)
  rw [e, cw_add, cw_mul]
  grind
theorem sub_le (hE : Enu M s m) (hG : GW M s) (hC : GB M s) (hS : Sy m (rowp M s m) N D) (h1 : ∀ k : Nat, (k : Int) < mI M s 1 → unk M s k → x k ≤ cw M s (cx M s k (pl M s k)) x) (h2 : ∀ k : Nat, (k : Int) < mI M s 1 → ¬ unk M s k → x k ≤ valx M s m k) : ∀ k : Nat, (k : Int) < mI M s 1 → x k ≤ valx M s m k := by
  obtain ⟨⟨h, g⟩, -⟩ := id hS
  have hz : ∀ r, r < m → x (uu M s r) - valx M s m (uu M s r) ≤ 0 := by
    refine maxp g (z := fun r => x (uu M s r) - valx M s m (uu M s r)) (fun r hr => ?_)
    obtain ⟨c1, c2, -⟩ := hE.cmd hG hr
    have hu := (hE.1 r hr).2.2.1
    rw [rowp_sum hE hG hr]
    have e1 := h1 _ c1 hu
    have e2 := valx_eq hE hG hS c1 hu
    have e3 : cx M s (uu M s r) (pl M s (uu M s r)) = rwc M s r := rfl
    rw [e3] at e1 e2
    have e4 := cw_le hC c2 (f := fun k => x k - valx M s m k) (g := eU M s (fun r => x (uu M s r) - valx M s m (uu M s r))) (fun b hb => by
      have ht := tg_lt hG c2 hb
      generalize tg M s (bg M s (rwc M s r) + b) = t at *
      unfold eU
      by_cases q : mI M (s + 36) t ≠ 0 ∧ mI M (s + 22) t ≠ 3
      · rw [if_pos q]
        have r3 := (hE.2.1 t ht q).2.2
        have euj : uu M s (mI M (s + 40) t).toNat = t := by unfold uu; omega
        show x t - valx M s m t ≤ x (uu M s (mI M (s + 40) t).toNat) - valx M s m (uu M s (mI M (s + 40) t).toNat)
        rw [euj]
        exact Rat.le_refl
      · rw [if_neg q]
        have := h2 t ht q
        grind)
    rw [cw_sub] at e4
    grind
  intro k hk
  by_cases q : unk M s k
  · obtain ⟨r1, r2, r3⟩ := hE.2.1 k hk q
    have euj : uu M s (mI M (s + 40) k).toNat = k := by unfold uu; omega
    have a := hz (mI M (s + 40) k).toNat (by omega)
    rw [euj] at a
    grind
  · exact h2 k hk q
theorem sup_ge (hE : Enu M s m) (hG : GW M s) (hC : GB M s) (hS : Sy m (rowp M s m) N D) (h1 : ∀ k : Nat, (k : Int) < mI M s 1 → unk M s k → cw M s (cx M s k (pl M s k)) x ≤ x k) (h2 : ∀ k : Nat, (k : Int) < mI M s 1 → ¬ unk M s k → valx M s m k ≤ x k) : ∀ k : Nat, (k : Int) < mI M s 1 → valx M s m k ≤ x k := by
  obtain ⟨⟨h, g⟩, -⟩ := id hS
  have hz : ∀ r, r < m → valx M s m (uu M s r) - x (uu M s r) ≤ 0 := by
    refine maxp g (z := fun r => valx M s m (uu M s r) - x (uu M s r)) (fun r hr => ?_)
    obtain ⟨c1, c2, -⟩ := hE.cmd hG hr
    have hu := (hE.1 r hr).2.2.1
    rw [rowp_sum hE hG hr]
    have e1 := h1 _ c1 hu
    have e2 := valx_eq hE hG hS c1 hu
    have e3 : cx M s (uu M s r) (pl M s (uu M s r)) = rwc M s r := rfl
    rw [e3] at e1 e2
    have e4 := cw_le hC c2 (f := fun k => valx M s m k - x k) (g := eU M s (fun r => valx M s m (uu M s r) - x (uu M s r))) (fun b hb => by
      have ht := tg_lt hG c2 hb
      generalize tg M s (bg M s (rwc M s r) + b) = t at *
      unfold eU
      by_cases q : mI M (s + 36) t ≠ 0 ∧ mI M (s + 22) t ≠ 3
      · rw [if_pos q]
        have r3 := (hE.2.1 t ht q).2.2
        have euj : uu M s (mI M (s + 40) t).toNat = t := by unfold uu; omega
        show valx M s m t - x t ≤ valx M s m (uu M s (mI M (s + 40) t).toNat) - x (uu M s (mI M (s + 40) t).toNat)
        rw [euj]
        exact Rat.le_refl
      · rw [if_neg q]
        have := h2 t ht q
        grind)
    rw [cw_sub] at e4
    grind
  intro k hk
  by_cases q : unk M s k
  · obtain ⟨r1, r2, r3⟩ := hE.2.1 k hk q
    have euj : uu M s (mI M (s + 40) k).toNat = k := by unfold uu; omega
    have a := hz (mI M (s + 40) k).toNat (by omega)
    rw [euj] at a
    grind
  · exact h2 k hk q
end SB
end
section
/-! The solver: the states that come to the end, and their rows. -/
/-- what is played is a command that may be taken -/
def PLo (M : mM) (s : Nat) : Prop := ∀ k : Nat, (k : Int) < mI M s 1 → 0 < mny M s k → 0 ≤ mI M (s + 35) k ∧ mI M (s + 35) k < mny M s k ∧ mayP M s k (pl M s k)
def sameW (M M' : mM) (s : Nat) : Prop := sameG M M' s ∧ mI M' s 17 = mI M s 17 ∧ mI M' (s + 32) = mI M (s + 32)
theorem sameW.refl {M : mM} {s : Nat} : sameW M M s := ⟨sameG.refl, rfl, rfl⟩
theorem sameW.trans {M M' M'' : mM} {s : Nat} (h : sameW M M' s) (h' : sameW M' M'' s) : sameW M M'' s := ⟨h.1.trans h'.1, h'.2.1.trans h.2.1, h'.2.2.trans h.2.2⟩
theorem sameW.of {S : Nat → Prop} {M M' : mM} {s : Nat} (f : FI S M M') (h0 : ¬ S s) (h1 : ∀ x, s + 22 ≤ x → x ≤ s + 28 → ¬ S x) (h2 : ¬ S (s + 32)) : sameW M M' s :=
  ⟨sameG.of f h0 h1, by rw [f.2.2.2.2.2.2 s h0], f.2.2.2.2.2.2 _ h2⟩
theorem sameW.may {M M' : mM} {s : Nat} (h : sameW M M' s) : mayP M' s = mayP M s := by
  funext k i
  unfold mayP
  rw [h.2.1, h.2.2, h.1.2.2.2 (s + 22) (by omega) (by omega)]
theorem sameG.hld {M M' : mM} {s : Nat} (h : sameG M M' s) : LD M' s = LD M s := by
  funext k i T
  unfold LD
  rw [h.hn, h.hx, h.ht, h.hb]
def Rnk (M : mM) (s n : Nat) (A : Nat → Prop) (ρ σ : Nat → Nat) : Prop := ∀ k, k < n → A k → mI M (s + 22) k ≠ 3 → (mI M (s + 22) k = 1 ∧ (σ k : Int) < mny M s k ∧ LD M s k (σ k) (fun t => A t ∧ ρ t < ρ k)) ∨ (mI M (s + 22) k = 2 ∧ 0 < mny M s k ∧ ∀ i : Nat, (i : Int) < mny M s k → mayP M s k i → LD M s k i (fun t => A t ∧ ρ t < ρ k))
def Fix (M : mM) (s n : Nat) (A : Nat → Prop) (σ : Nat → Nat) : Prop := (∀ k, k < n → mI M (s + 22) k = 3 → A k) ∧ ∀ k, k < n → ¬ A k → (mI M (s + 22) k = 1 → (σ k : Int) < mny M s k → ¬ LD M s k (σ k) A) ∧ (mI M (s + 22) k = 2 → 0 < mny M s k → ∃ i : Nat, (i : Int) < mny M s k ∧ mayP M s k i ∧ ¬ LD M s k i A)
/-- look has found at most 40 unknown states, not too heavy -/
def LQ (M : mM) (s n : Nat) : Prop := ∃ τ w : Nat → Int, (∀ k, k < n → mI M (s + 22) k = 3 → τ k ≠ 0) ∧ (∀ k, k < n → τ k = 0 → (mI M (s + 22) k = 1 → ∀ i : Nat, (i : Int) < mny M s k → mayP M s k i → ¬ LD M s k i (fun t => τ t ≠ 0)) ∧ (mI M (s + 22) k = 2 → 0 < mny M s k → ∃ i : Nat, (i : Int) < mny M s k ∧ mayP M s k i ∧ ¬ LD M s k i (fun t => τ t ≠ 0)))
  ∧ (∀ k, k < n → τ k ≠ 0 → mI M (s + 22) k ≠ 3 → 0 ≤ w k ∧ ∀ i : Nat, (i : Int) < mny M s k → mayP M s k i → 2 * mI M (s + 24) (cx M s k i) ≤ 2 ^ (w k).toNat) ∧ (∀ k, k < n → 0 ≤ w k) ∧ sm w n ≤ 480 ∧ sm (fun k => if τ k ≠ 0 ∧ mI M (s + 22) k ≠ 3 then 1 else 0) n ≤ 40
theorem sameW.lq {M M' : mM} {s n : Nat} (h : sameW M M' s) (r : LQ M s n) : LQ M' s n := by
  unfold LQ at r ⊢
  rw [h.1.hm, h.may, h.1.hld, h.1.hx, h.1.2.2.2 (s + 22) (by omega) (by omega), h.1.2.2.2 (s + 24) (by omega) (by omega)]
  exact r
theorem LD.mono {M : mM} {s k i : Nat} {T T' : Nat → Prop} (h : LD M s k i T) (hG : GW M s) (hk : (k : Int) < mI M s 1) (hi : (i : Int) < mny M s k) (ht : ∀ t : Nat, (t : Int) < mI M s 1 → T t → T' t) : LD M s k i T' := by
  obtain ⟨b, h1, h2⟩ := h
  exact ⟨b, h1, ht _ (tg_lt hG (cx_lt hG hk hi) h1) h2⟩
section RK
variable {M M1 : mM} {s n t : Nat} {ρ : Nat → Nat}
theorem gv_rnk (hG : GW M s) (hn : mI M s 1 = n) (h : gvI M s 1 M1 ρ t) : Rnk M s n (mkd M1 s) ρ (pl M s) := by
  intro k hk hA h3
  have hkI : (k : Int) < mI M s 1 := by omega
  obtain ⟨a1, a2, a3⟩ := h.2.2 k hkI
  have hA' : mI M1 (s + 36) k ≠ 0 := hA
  obtain ⟨-, c⟩ := a3 (by omega)
  rcases c with c | ⟨c1, i, c2, c3, c4⟩ | ⟨c1, c2, c3⟩
  · exact absurd c h3
  · left
    have e : mI M (s + 35) k = i := by
      rcases c3 with w | w
      · rcases w.1 with w | w
        · exact absurd c1 w
        · omega
      · exact w.2
    have ep : pl M s k = i := by unfold pl; omega
    rw [ep]
    exact ⟨c1, c2, (leadQ_LD hG hkI c2).1 c4⟩
  · right
    exact ⟨c1, c2, fun i hi hm => (leadQ_LD hG hkI hi).1 (c3 i hi (Or.inl ⟨Or.inl (by omega), hm⟩))⟩
theorem gv_fix (hG : GW M s) (hn : mI M s 1 = n) (hP : PLo M s) (h : gvQ M s 1 M1) : Fix M s n (mkd M1 s) (pl M s) := by
  obtain ⟨⟨ρ, t, h1⟩, h2⟩ := h
  refine ⟨fun k hk h3 => ?_, fun k hk hA => ⟨fun c1 hp hl => ?_, fun c1 hp => ?_⟩⟩
  · have a := (h1.2.2 k (by omega)).2.1 h3
    show mI M1 (s + 36) k ≠ 0
    omega
  · have hkI : (k : Int) < mI M s 1 := by omega
    have h0 : mI M1 (s + 36) k = 0 := Classical.byContradiction (fun w => hA w)
    have pk := hP k hkI (by omega)
    exact h2 k hkI h0 (Or.inl ⟨c1, pl M s k, hp, Or.inr ⟨fun w => by omega, by unfold pl; omega⟩, (leadQ_LD hG hkI hp).2 hl⟩)
  · have hkI : (k : Int) < mI M s 1 := by omega
    have h0 : mI M1 (s + 36) k = 0 := Classical.byContradiction (fun w => hA w)
    refine Classical.byContradiction (fun w => ?_)
    refine h2 k hkI h0 (Or.inr ⟨c1, hp, fun i hi hu => ?_⟩)
    have hm : mayP M s k i := by
      rcases hu with u | u
      · exact u.2
      · exact absurd (Or.inl (by omega)) u.1
    exact (leadQ_LD hG hkI hi).2 (Classical.byContradiction (fun w2 => w ⟨i, hi, hm, w2⟩))
/-- whoever comes to the end so, is seen by look -/
theorem ins_sub {A : Nat → Prop} {τ : Nat → Int} (hG : GW M s) (hn : mI M s 1 = n) (hP : PLo M s) (hR : Rnk M s n A ρ (pl M s)) (h3 : ∀ k, k < n → mI M (s + 22) k = 3 → τ k ≠ 0) (hτ : ∀ k, k < n → τ k = 0 → (mI M (s + 22) k = 1 → ∀ i : Nat, (i : Int) < mny M s k → mayP M s k i → ¬ LD M s k i (fun t => τ t ≠ 0)) ∧ (mI M (s + 22) k = 2 → 0 < mny M s k → ∃ i : Nat, (i : Int) < mny M s k ∧ mayP M s k i ∧ ¬ LD M s k i (fun t => τ t ≠ 0))) : ∀ k, k < n → A k → τ k ≠ 0 := by
  suffices H : ∀ r k, ρ k = r → k < n → A k → τ k ≠ 0 from fun k => H (ρ k) k rfl
  intro r
  induction r using Nat.strongRecOn with
  | ind r ih =>
    intro k er hk hA h0
    have hkI : (k : Int) < mI M s 1 := by omega
    have hK : mI M (s + 22) k ≠ 3 := fun w => h3 k hk w h0
    have key : ∀ t : Nat, (t : Int) < mI M s 1 → (A t ∧ ρ t < ρ k) → τ t ≠ 0 := fun t ht w => ih (ρ t) (by omega) t rfl (by omega) w.1
    rcases hR k hk hA hK with ⟨c1, c2, c3⟩ | ⟨c1, c2, c3⟩
    · exact (hτ k hk h0).1 c1 (pl M s k) c2 (hP k hkI (by omega)).2.2 (c3.mono hG hkI c2 key)
    · obtain ⟨i, i1, i2, i3⟩ := (hτ k hk h0).2 c1 c2
      exact i3 ((c3 i i1 i2).mono hG hkI i1 key)
end RK
/-- the unknown states up to i have their rows -/
abbrev nS (s : Nat) : Nat → Prop := fun x => x = s ∨ x = s + 39 ∨ x = s + 40
def EnI (M : mM) (s i c : Nat) (M2 : mM) : Prop := (mOk M2 ∧ FI (nS s) M M2 ∧ (∀ j, j ≠ 24 → mI M2 s j = mI M s j) ∧ mI M2 s 24 = c) ∧ (∀ r, r < c → 0 ≤ mI M2 (s + 39) r ∧ mI M2 (s + 39) r < i ∧ unk M s (mI M2 (s + 39) r).toNat ∧ mI M2 (s + 40) (mI M2 (s + 39) r).toNat = r)
  ∧ (∀ k, k < i → unk M s k → 0 ≤ mI M2 (s + 40) k ∧ mI M2 (s + 40) k < c ∧ mI M2 (s + 39) (mI M2 (s + 40) k).toNat = k) ∧ ∀ f : Nat → Int, sm (fun r => f (mI M2 (s + 39) r).toNat) c = sm (fun k => if unk M s k then f k else 0) i
section VS
variable {G : mG} {d s n : Nat} {M : mM}
theorem en_step {i c : Nat} {M2 M5 : mM} (h : EnI M s i c M2) (hu : unk M s i) (o5 : mOk M5) (f5 : FI (nS s) M2 M5) (h5 : ∀ j, j ≠ 24 → mI M5 s j = mI M2 s j) (h24 : mI M5 s 24 = (c : Int) + 1) (h39 : ∀ r, mI M5 (s + 39) r = if r = c then (i : Int) else mI M2 (s + 39) r) (h40 : ∀ k, mI M5 (s + 40) k = if k = i then (c : Int) else mI M2 (s + 40) k) : EnI M s (i + 1) (c + 1) M5 := by
  obtain ⟨⟨a1, a2, a3, a4⟩, a5, a6, a7⟩ := h
  refine ⟨⟨o5, a2.trans f5, fun j hj => (h5 j hj).trans (a3 j hj), by omega⟩, fun r hr => ?_, fun k hk hk2 => ?_, fun f => ?_⟩
  · rw [h39]
    by_cases q : r = c
    · rw [if_pos q, Int.toNat_natCast, h40, if_pos rfl]
      exact ⟨by omega, by omega, hu, by omega⟩
    · rw [if_neg q]
      obtain ⟨b1, b2, b3, b4⟩ := a5 r (by omega)
      rw [h40, if_neg (by omega)]
      exact ⟨b1, by omega, b3, b4⟩
  · rw [h40]
    by_cases q : k = i
    · rw [if_pos q, Int.toNat_natCast, h39, if_pos rfl]
      omega
    · rw [if_neg q]
      obtain ⟨b1, b2, b3⟩ := a6 k (by omega) hk2
      rw [h39, if_neg (by omega)]
      exact ⟨b1, by omega, b3⟩
  · rw [sm, sm, if_pos hu, ← a7 f, h39, if_pos rfl, Int.toNat_natCast]
    rw [sm_congr (g := fun r => f (mI M2 (s + 39) r).toNat) c (fun r hr => by rw [h39, if_neg (by omega)])]
theorem s_an12 {Q : mM → Prop} (hV : Vk M s) (hn : mI M s 1 = n) (hn5 : n ≤ 512) (h40 : sm (fun k => if unk M s k then 1 else 0) n ≤ 40) (hQ : ∀ m M', m ≤ 40 → EnI M s n m M' → h_MS_answer_77 G d s 1 M' Q) :
    ∀ (t i c : Nat) (M2 : mM), i + t = n → EnI M s i c M2 → h_MS_answer_12 G d s i M2 Q := by
  have hcnt : ∀ i c (M2 : mM), EnI M s i c M2 → i ≤ n → (c : Int) = sm (fun k => if unk M s k then 1 else 0) i ∧ (c : Int) ≤ 40 := fun i c M2 h hi => by
    have e := h.2.2.2 (fun _ => 1)
    have e1 : ∀ c : Nat, sm (fun _ => (1 : Int)) c = c := fun c => by
      induction c with
      | zero => rfl
      | succ c ih => rw [sm, ih]; omega
    have e2 : sm (fun r => (fun _ => (1 : Int)) (mI M2 (s + 39) r).toNat) c = c := e1 c
    rw [e2] at e
    have p := sm_part (f := fun k => if unk M s k then (1 : Int) else 0) (a := i) (n - i) (fun k _ => by show (0 : Int) ≤ if unk M s k then 1 else 0; split <;> omega)
    rw [show i + (n - i) = n by first | rfl | omega] at p
    exact ⟨e, by omega⟩
  intro t
  induction t with
  | zero =>
    intro i c M2 hi h
    have ei : i = n := by omega
    subst ei
    have hc := hcnt i c M2 h (by omega)
    obtain ⟨a1, a2, a3, a4⟩ := h.1
    refine k_MS_answer_12 a1 ⟨by omega, by omega⟩ ?_
    rw [a3 1 (by omega), hn]
    exact ⟨(hV.fi a2).k0, fun _ => hQ c M2 (by omega) h, fun w => by omega⟩
  | succ t ih =>
    intro i c M2 hi h
    have hc := hcnt i c M2 h (by omega)
    obtain ⟨a1, a2, a3, a4⟩ := h.1
    have V2 := hV.fi a2
    have fe := a2.2.2.2.2.2.2
    refine k_MS_answer_12 a1 ⟨by omega, by omega⟩ ?_
    rw [a3 1 (by omega), hn, V2.r19, V2.r4, V2.r22, V2.n36, V2.n22, V2.n39, fe (s + 36) (by omega), fe (s + 22) (by omega), a4, Int.toNat_natCast, Int.toNat_natCast]
    refine ⟨V2.k0, fun w => by omega, fun _ => ⟨V2.k36, by omega, fun _ => ⟨V2.k22, by omega⟩, fun w => ?_, fun w => ?_⟩⟩
    · have hnu : ¬ unk M s i := fun u => by rcases w with w | w; exact u.1 w; exact u.2 w
      refine ih (i + 1) c M2 (by omega) ⟨h.1, fun r hr => ?_, fun k hk hu => ?_, fun f => ?_⟩
      · obtain ⟨b1, b2, b3⟩ := h.2.1 r hr
        exact ⟨b1, by omega, b3⟩
      · have : k ≠ i := fun z => hnu (by rw [← z]; exact hu)
        exact h.2.2.1 k (by omega) hu
      · rw [h.2.2.2 f, sm, if_neg hnu]
        omega
    · have hu : unk M s i := ⟨fun z => w (Or.inl z), fun z => w (Or.inr z)⟩
      have hc1 := hcnt i c M2 h (by omega)
      have hlt : (c : Int) < 40 := by
        have p := sm_part (f := fun k => if unk M s k then (1 : Int) else 0) (a := i + 1) (n - (i + 1)) (fun k _ => by show (0 : Int) ≤ if unk M s k then 1 else 0; split <;> omega)
        rw [show i + 1 + (n - (i + 1)) = n by first | rfl | omega, sm, if_pos hu] at p
        omega
      refine ⟨V2.k39, by omega, fun M3 e3 => ?_⟩
      have f3 : FI (nS s) M2 M3 := by rw [e3]; exact FI.ui (Or.inr (Or.inl rfl))
      have V3 := V2.fi f3
      have s3 : mI M3 s = mI M2 s := by rw [e3]; funext j; rw [mI_UI, if_neg (by omega)]
      rw [V3.r23, V3.n40, s3, a4]
      refine ⟨V3.k40, by omega, fun M4 e4 => ?_⟩
      have f4 : FI (nS s) M3 M4 := by rw [e4]; exact FI.ui (Or.inr (Or.inr rfl))
      have s4 : mI M4 s = mI M2 s := by rw [e4]; funext j; rw [mI_UI, if_neg (by omega), s3]
      rw [s4, a4]
      refine ⟨⟨by omega, by omega⟩, fun M5 e5 => ?_⟩
      have f5 : FI (nS s) M4 M5 := by rw [e5]; exact FI.ui (Or.inl rfl)
      have o5 : mOk M5 := by
        rw [e5]
        refine mOk_UI ?_ ⟨by omega, by omega⟩
        rw [e4]
        refine mOk_UI ?_ ⟨by omega, by omega⟩
        rw [e3]
        exact mOk_UI a1 ⟨by omega, by omega⟩
      refine ih (i + 1) (c + 1) M5 (by omega) (en_step h hu o5 ((f3.trans f4).trans f5) (fun j hj => ?_) ?_ (fun r => ?_) (fun k => ?_))
      · rw [e5, mI_UI, if_neg (fun w => hj w.2), s4]
      · rw [e5, mI_UI, if_pos ⟨rfl, rfl⟩]
      · rw [e5, mI_UI, if_neg (by omega), e4, mI_UI, if_neg (by omega), e3, mI_UI]
        by_cases q : r = c
        · rw [if_pos ⟨rfl, q⟩, if_pos q]
        · rw [if_neg (fun w => q w.2), if_neg q]
      · rw [e5, mI_UI, if_neg (by omega), e4, mI_UI]
        by_cases q : k = i
        · rw [if_pos ⟨rfl, q⟩, if_pos q]
        · rw [if_neg (fun w => q w.2), if_neg q, e3, mI_UI, if_neg (by omega)]
end VS
end
section
/-! The solver: min's best answer. -/
theorem smp_sml {x : Rat} (h : Smp 21 x) : Sml x := by
  obtain ⟨E, z, h0, h1, h2⟩ := h
  exact ⟨E, z, h0, Int.lt_of_lt_of_le h1 (pow_mono (by omega)), h2⟩
theorem smp_b {x : Rat} {k : Nat} (h : Smp k x) : x ≤ 1 ∧ -1 ≤ x := by
  obtain ⟨E, z, -, -, -, h1, h2⟩ := h
  exact ⟨h1, h2⟩
theorem smp_one : Smp 21 1 := ⟨1, 1, by omega, by decide, by grind, by grind, by grind⟩
theorem smp_zero : Smp 21 0 := ⟨1, 0, by omega, by decide, by grind, by grind, by grind⟩
theorem Sy.val {m i : Nat} {p : Nat → Nat → Rat} {N : Nat → Nat → Int} {D : Nat → Int} (h : Sy m p N D) (hi : i < m) : Smp 21 (gq p m i m) := by
  have a := h.q01 hi (k := m) (j := m) (by omega) (by omega)
  obtain ⟨⟨h', g⟩, hp, hD, hE⟩ := h
  obtain ⟨z, hz⟩ := gq_int g hp (k := m) (j := m) (by omega) (by omega) hi
  exact ⟨_, z, det_pos g hp hD m (by omega), (hE i m hi (by omega)).2, hz, a.2, by grind⟩
section MS
variable {n : Nat} {x x' : Nat → Rat} {F : Int}
theorem ms_ex (hF : Fall F) : ∀ (n : Nat), (∀ k, k < n → Smp 21 (x k) ∧ 0 ≤ x k) → ∃ t : Nat, sr x n * (F : Rat) = ((t : Int) : Rat)
  | 0, _ => ⟨0, by show (0 : Rat) * (F : Rat) = 0; grind⟩
  | n + 1, h => by
    obtain ⟨t, ht⟩ := ms_ex hF n (fun k hk => h k (by omega))
    obtain ⟨z, hz⟩ := hF.int (smp_sml (h n (by omega)).1)
    have h0 : (0 : Rat) ≤ (z : Rat) := by
      rw [← hz]
      exact Rat.mul_nonneg (h n (by omega)).2 (Rat.le_of_lt (Rat.intCast_pos.2 hF.1))
    have hz0 : 0 ≤ z := ic_le (by have : ((0 : Int) : Rat) = 0 := rfl; rw [this]; exact h0)
    refine ⟨t + z.toNat, ?_⟩
    rw [sr, show ((t + z.toNat : Nat) : Int) = (t : Int) + z by first | rfl | omega, Rat.intCast_add, ← ht, ← hz]
    grind
theorem ms_lt (hF : Fall F) {t t' : Nat} (h : sr x n * (F : Rat) = ((t : Int) : Rat)) (h' : sr x' n * (F : Rat) = ((t' : Int) : Rat)) (hl : sr x' n < sr x n) : t' < t := by
  have p : (0 : Rat) < (F : Rat) := Rat.intCast_pos.2 hF.1
  have a := Rat.mul_pos (a := sr x n - sr x' n) (b := (F : Rat)) (by grind) p
  have b : ((t' : Int) : Rat) < ((t : Int) : Rat) := by
    rw [← h, ← h']
    grind
  have := ic_lt.1 b
  omega
end MS
abbrev aS (s : Nat) : Nat → Prop := fun x => x = s ∨ (s + 2 ≤ x ∧ x ≤ s + 21) ∨ (s + 35 ≤ x ∧ x ≤ s + 36) ∨ (s + 39 ≤ x ∧ x ≤ s + 40) ∨ (s + 42 ≤ x ∧ x ≤ s + 61) ∨ eS s 88 x ∨ (s + 12868 ≤ x ∧ x ≤ s + 21067)
abbrev bS (s : Nat) : Nat → Prop := fun x => (s + 2 ≤ x ∧ x ≤ s + 21) ∨ x = s + 35 ∨ (s + 42 ≤ x ∧ x ≤ s + 61) ∨ eS s 88 x ∨ (s + 12868 ≤ x ∧ x ≤ s + 21067)
/-- the values that the choices σ give -/
def VL (M : mM) (s n : Nat) (A : Nat → Prop) (σ : Nat → Nat) (x : Nat → Rat) : Prop := (∀ k, k < n → Smp 21 (x k) ∧ 0 ≤ x k) ∧ (∀ k, k < n → mI M (s + 22) k = 3 → x k = 1) ∧ (∀ k, k < n → ¬ A k → mI M (s + 22) k ≠ 3 → x k = 0) ∧ (∀ k, k < n → A k → mI M (s + 22) k ≠ 3 → x k = cw M s (cx M s k (σ k)) x)
  ∧ (∀ z : Nat → Rat, (∀ k, k < n → A k → mI M (s + 22) k ≠ 3 → z k ≤ cw M s (cx M s k (σ k)) z) → (∀ k, k < n → ¬ (A k ∧ mI M (s + 22) k ≠ 3) → z k ≤ x k) → ∀ k, k < n → z k ≤ x k)
  ∧ (∀ z : Nat → Rat, (∀ k, k < n → A k → mI M (s + 22) k ≠ 3 → cw M s (cx M s k (σ k)) z ≤ z k) → (∀ k, k < n → ¬ (A k ∧ mI M (s + 22) k ≠ 3) → x k ≤ z k) → ∀ k, k < n → x k ≤ z k)
/-- the values that max's choices σ give against min's best -/
def Res (M : mM) (s n : Nat) (A : Nat → Prop) (ρ σ : Nat → Nat) (x : Nat → Rat) : Prop := (∀ k, k < n → Smp 21 (x k) ∧ 0 ≤ x k) ∧ (∀ k, k < n → mI M (s + 22) k = 3 → x k = 1) ∧ (∀ k, k < n → ¬ A k → mI M (s + 22) k ≠ 3 → x k = 0) ∧ (∀ k, k < n → A k → mI M (s + 22) k = 1 → x k = cw M s (cx M s k (σ k)) x) ∧ (∀ k, k < n → A k → mI M (s + 22) k = 2 → ∀ i : Nat, (i : Int) < mny M s k → mayP M s k i → x k ≤ cw M s (cx M s k i) x)
  ∧ Rnk M s n A ρ σ ∧ Fix M s n A σ
  ∧ (∀ z : Nat → Rat, (∀ k, k < n → A k → mI M (s + 22) k = 1 → z k ≤ cw M s (cx M s k (σ k)) z) → (∀ k, k < n → A k → mI M (s + 22) k = 2 → ∀ i : Nat, (i : Int) < mny M s k → mayP M s k i → z k ≤ cw M s (cx M s k i) z) → (∀ k, k < n → ¬ A k → z k ≤ 0) → (∀ k, k < n → mI M (s + 22) k = 3 → z k ≤ 1) → ∀ k, k < n → z k ≤ x k)
/-- what stands while min's choices are bettered -/
def AC (M : mM) (s n m : Nat) (ρ : Nat → Nat) (M3 : mM) : Prop := GW M s ∧ GB M s ∧ mI M s 1 = n ∧ m ≤ 40 ∧ LQ M s n ∧ Rnk M s n (mkd M3 s) ρ (pl M s) ∧ Fix M s n (mkd M3 s) (pl M s) ∧ PLo M s ∧ sameW M M3 s ∧ mI M3 s 24 = m ∧ (∀ r, r < m → 0 ≤ mI M3 (s + 39) r ∧ mI M3 (s + 39) r < n ∧ unk M3 s (uu M3 s r) ∧ mI M3 (s + 40) (uu M3 s r) = r) ∧ (∀ k, k < n → unk M3 s k → 0 ≤ mI M3 (s + 40) k ∧ mI M3 (s + 40) k < m ∧ mI M3 (s + 39) (mI M3 (s + 40) k).toNat = k) ∧ ∀ f : Nat → Int, sm (fun r => f (uu M3 s r)) m = sm (fun k => if unk M3 s k then f k else 0) n
def AH (M : mM) (s : Nat) (M3 M2 : mM) : Prop := mOk M2 ∧ Vk M2 s ∧ FI (bS s) M3 M2 ∧ Wk M2 s ∧ Ct M2 s ∧ Rm M2 s 88 ∧ PLo M2 s ∧ ∀ k, mI M (s + 22) k ≠ 2 → mI M2 (s + 35) k = mI M (s + 35) k
section AN
variable {M M3 M2 : mM} {s n m : Nat} {ρ : Nat → Nat}
theorem AH.sw (hA : AC M s n m ρ M3) (h : AH M s M3 M2) : sameW M M2 s :=
  hA.2.2.2.2.2.2.2.2.1.trans (sameW.of h.2.2.1 (by omega) (fun x _ _ => by omega) (by omega))
theorem AH.sy (hA : AC M s n m ρ M3) (h : AH M s M3 M2) : Enu M2 s m ∧ Sy m (rowp M2 s m) (rowN M2 s m) (rowD M2 s) := by
  have hw := AH.sw hA h
  obtain ⟨hG, hC, hn, hm, hL, hR, hF, hP, -, h24, e1, e2, e3⟩ := hA
  obtain ⟨o2, V2, f2, W2, T2, R2, P2, h2⟩ := h
  have fe := f2.2.2.2.2.2.2
  have i36 : mI M2 (s + 36) = mI M3 (s + 36) := fe _ (by omega)
  have i39 : mI M2 (s + 39) = mI M3 (s + 39) := fe _ (by omega)
  have i40 : mI M2 (s + 40) = mI M3 (s + 40) := fe _ (by omega)
  have i22 : mI M2 (s + 22) = mI M3 (s + 22) := fe _ (by omega)
  have i22' : mI M2 (s + 22) = mI M (s + 22) := hw.1.2.2.2 _ (by omega) (by omega)
  have hu : ∀ k, unk M2 s k ↔ unk M3 s k := fun k => by unfold unk; rw [i36, i22]
  have huu : uu M2 s = uu M3 s := by funext r; unfold uu; rw [i39]
  have hG2 := hw.1.gw hG
  have hC2 := hw.1.gb hC
  have hn2 : mI M2 s 1 = n := by rw [hw.1.1]; exact hn
  have hcmd : ∀ k, k < n → unk M3 s k → (mI M (s + 22) k = 1 ∨ mI M (s + 22) k = 2) ∧ 0 < mny M s k := fun k hk hk2 => by
    rcases hR k hk hk2.1 (by rw [← i22', i22]; exact hk2.2) with ⟨c1, c2, -⟩ | ⟨c1, c2, -⟩
    · exact ⟨Or.inl c1, by omega⟩
    · exact ⟨Or.inr c1, c2⟩
  have hE : Enu M2 s m := by
    refine ⟨fun r hr => ?_, fun k hk hk2 => ?_, fun r hr => ?_, fun k hk h3 => ?_⟩
    · obtain ⟨a1, a2, a3, a4⟩ := e1 r hr
      rw [huu, i39, i40, hn2]
      exact ⟨a1, a2, (hu _).2 a3, a4⟩
    · rw [i40, i39]
      exact e2 k (by omega) ((hu k).1 hk2)
    · obtain ⟨a1, a2, a3, a4⟩ := e1 r hr
      rw [huu]
      have hk : uu M3 s r < n := by unfold uu; omega
      have a := hcmd _ hk a3
      have b := P2 (uu M3 s r) (by omega) (by rw [hw.1.hm]; exact a.2)
      exact ⟨b.1, b.2.1⟩
    · rw [i36]
      exact hF.1 k (by omega) (by rw [← i22']; exact h3)
  obtain ⟨τ, w, l1, l2, l3, l4, l5, l6⟩ := hL
  have hsub := ins_sub hG hn hP hR l1 l2
  have hrow : ∀ r, r < m → uu M2 s r < n ∧ mkd M3 s (uu M2 s r) ∧ mI M (s + 22) (uu M2 s r) ≠ 3 ∧ (pl M2 s (uu M2 s r) : Int) < mny M s (uu M2 s r) ∧ mayP M s (uu M2 s r) (pl M2 s (uu M2 s r)) ∧ LD M s (uu M2 s r) (pl M2 s (uu M2 s r)) (fun t => mkd M3 s t ∧ ρ t < ρ (uu M2 s r)) := fun r hr => by
    obtain ⟨c1, c2, c3, c4⟩ := hE.cmd hG2 hr
    have hk : uu M2 s r < n := by omega
    have hk2 := (hu _).1 (hE.1 r hr).2.2.1
    have h3 : mI M (s + 22) (uu M2 s r) ≠ 3 := by rw [← i22', i22]; exact hk2.2
    rw [hw.1.hm] at c3
    have hmy := (P2 _ c1 (by rw [hw.1.hm]; omega)).2.2
    rw [hw.may] at hmy
    refine ⟨hk, hk2.1, h3, c3, hmy, ?_⟩
    rcases hR _ hk hk2.1 h3 with ⟨d1, d2, d3⟩ | ⟨d1, d2, d3⟩
    · have e : pl M2 s (uu M2 s r) = pl M s (uu M2 s r) := by unfold pl; rw [h2 _ (by omega)]
      rw [e]
      exact d3
    · exact d3 _ c3 hmy
  refine ⟨hE, rowp_sy (ρ := ρ) (w := fun r => w (uu M2 s r)) hE hG2 hC2 (fun r hr => ?_) (fun r hr => ?_) ?_⟩
  · obtain ⟨b, b1, b2, b3⟩ := (hrow r hr).2.2.2.2.2
    have e : rwc M2 s r = cx M s (uu M2 s r) (pl M2 s (uu M2 s r)) := by unfold rwc; rw [hw.1.hx]
    rw [e, hw.1.hn, hw.1.ht, hw.1.hb, i36]
    exact ⟨b, b1, b2, b3⟩
  · obtain ⟨g1, g2, g3, g4, g5, -⟩ := hrow r hr
    have a := l3 _ g1 (hsub _ g1 g2) g3
    refine ⟨a.1, ?_⟩
    have e : rowD M2 s r = mI M (s + 24) (cx M s (uu M2 s r) (pl M2 s (uu M2 s r))) := by unfold rowD rwc; rw [hw.1.hx, hw.1.2.2.2 (s + 24) (by omega) (by omega)]
    rw [e]
    exact a.2 _ g4 g5
  · rw [huu, e3 w]
    refine Int.le_trans (sm_le n (fun k hk => ?_)) l5
    have := l4 k hk
    split <;> omega
theorem AH.vl (hA : AC M s n m ρ M3) (h : AH M s M3 M2) : VL M s n (mkd M3 s) (pl M2 s) (valx M2 s m) := by
  have hw := AH.sw hA h
  obtain ⟨hE, hS⟩ := AH.sy hA h
  obtain ⟨hG, hC, hn, hm, -⟩ := hA
  have f2 := h.2.2.1
  have fe := f2.2.2.2.2.2.2
  have i36 : mI M2 (s + 36) = mI M3 (s + 36) := fe _ (by omega)
  have i22 : mI M2 (s + 22) = mI M (s + 22) := hw.1.2.2.2 _ (by omega) (by omega)
  have hG2 := hw.1.gw hG
  have hC2 := hw.1.gb hC
  have hn2 : mI M2 s 1 = n := by rw [hw.1.1]; exact hn
  have hu : ∀ k, unk M2 s k ↔ (mkd M3 s k ∧ mI M (s + 22) k ≠ 3) := fun k => by unfold unk; rw [i36, i22]
  refine ⟨fun k hk => ⟨?_, (valx_01 hE hS (by omega)).1⟩, fun k hk h3 => ?_, fun k hk hnA h3 => ?_, fun k hk hAk h3 => ?_, fun z h1 h2 k hk => ?_, fun z h1 h2 k hk => ?_⟩
  · by_cases q : mI M2 (s + 36) k ≠ 0 ∧ mI M2 (s + 22) k ≠ 3
    · rw [valx_y q]
      obtain ⟨r1, r2, r3⟩ := hE.2.1 k (by omega) q
      exact hS.val (by omega)
    · rw [valx_n q]
      split
      · exact smp_one
      · exact smp_zero
  · rw [valx_n (fun w => w.2 (by rw [i22]; exact h3)), i22, if_pos h3]
  · rw [valx_n (fun w => hnA (by have := w.1; rw [i36] at this; exact this)), i22, if_neg h3]
  · have e := valx_eq hE hG2 hS (k := k) (by omega) ((hu k).2 ⟨hAk, h3⟩)
    rw [hw.1.hw, hw.1.hx] at e
    exact e
  · refine sub_le hE hG2 hC2 hS (x := z) (fun j hj hj2 => ?_) (fun j hj hj2 => ?_) k (by omega)
    · have a := (hu j).1 hj2
      rw [hw.1.hw, hw.1.hx]
      exact h1 j (by omega) a.1 a.2
    · exact h2 j (by omega) (fun w => hj2 ((hu j).2 w))
  · refine sup_ge hE hG2 hC2 hS (x := z) (fun j hj hj2 => ?_) (fun j hj hj2 => ?_) k (by omega)
    · have a := (hu j).1 hj2
      rw [hw.1.hw, hw.1.hx]
      exact h1 j (by omega) a.1 a.2
    · exact h2 j (by omega) (fun w => hj2 ((hu j).2 w))
end AN
end
section
/-! The solver: answer. -/
def anQ (M : mM) (s n : Nat) (M' : mM) : Prop := mOk M' ∧ FI (aS s) M M' ∧ (∀ j, j ≠ 24 → mI M' s j = mI M s j) ∧ Wk M' s ∧ Ct M' s ∧ Rm M' s 88 ∧ PLo M' s ∧ (∀ k, mI M (s + 22) k ≠ 2 → mI M' (s + 35) k = mI M (s + 35) k) ∧ ∃ (A : Nat → Prop) (ρ : Nat → Nat) (x : Nat → Rat), Xt M' s 88 n x ∧ Res M s n A ρ (pl M s) x
theorem PLo.out {M M' : mM} {s : Nat} (h : PLo M s) (w : sameW M M' s) (e : mI M' (s + 35) = mI M (s + 35)) : PLo M' s := by
  unfold PLo pl at h ⊢
  rw [w.1.hm, w.may, w.1.1, e]
  exact h
section AN
variable {G : mG} {d s n m : Nat} {M M3 : mM} {ρ : Nat → Nat} {F : Int}
theorem an_settle {M5 : mM} {Q : mM → Prop} (hA : AC M s n m ρ M3) (h : AH M s M3 M5) (hQ : ∀ M6 x, AH M s M3 M6 → Xt M6 s 88 n x → VL M s n (mkd M3 s) (pl M6 s) x → pl M6 s = pl M5 s → h_MS_answer_89 G (d + 7) s 0 0 M6 Q) : h_MS_answer_77 G (d + 7) s 1 M5 Q := by
  have hw := AH.sw hA h
  have hv := AH.vl hA h
  obtain ⟨hE, hS⟩ := AH.sy hA h
  obtain ⟨hG, hC, hn, hm, -, -, -, -, -, h24, -⟩ := hA
  obtain ⟨o2, V2, f2, W2, T2, R2, P2, h2⟩ := h
  have hG2 := hw.1.gw hG
  have hn2 : mI M5 s 1 = n := by rw [hw.1.1]; exact hn
  have h24' : mI M5 s 24 = m := by rw [f2.2.2.2.2.2.2 s (by omega)]; exact h24
  refine k_MS_answer_77 o2 ⟨by omega, by omega⟩ ⟨fun w => by omega, fun _ => ⟨V2.k0, (s_MS_settle (d := d) hm o2 V2 hG2 (hw.1.gb hC) hn2 h24' hE hS W2 T2 R2).mono (fun M6 h6 => ?_)⟩⟩
  obtain ⟨o6, f6, W6, T6, R6, X6⟩ := h6
  have e35 : mI M6 (s + 35) = mI M5 (s + 35) := f6.2.2.2.2.2.2 _ (by omega)
  have ep : pl M6 s = pl M5 s := by funext k; unfold pl; rw [e35]
  refine ⟨o6, hQ M6 _ ⟨o6, V2.fi f6, f2.trans (f6.mono (fun y q => by omega)), W6, T6, R6, P2.out (sameW.of f6 (by omega) (fun x _ _ => by omega) (by omega)) e35, fun k hk => by rw [e35]; exact h2 k hk⟩ X6 (by rw [ep]; exact hv) ep⟩
theorem s_an89 {Q : mM → Prop} (hF : Fall F) (hA : AC M s n m ρ M3) (hQ : ∀ M' x, AH M s M3 M' → Xt M' s 88 n x → Res M s n (mkd M3 s) ρ (pl M s) x → Q M') : ∀ (t : Nat) (x : Nat → Rat) (M2 : mM), AH M s M3 M2 → Xt M2 s 88 n x → VL M s n (mkd M3 s) (pl M2 s) x → sr x n * (F : Rat) = ((t : Int) : Rat) → h_MS_answer_89 G (d + 7) s 0 0 M2 Q := by
  have hAC := hA
  obtain ⟨hG, hC, hn, hm, hL, hR, hFx, hP, hw3, h24, e1, e2, e3⟩ := hA
  have hn5 := hG.2.1
  have i22 : mI M3 (s + 22) = mI M (s + 22) := hw3.1.2.2.2 _ (by omega) (by omega)
  intro t
  induction t using Nat.strongRecOn with
  | ind t ih =>
    intro x M2 h2 X2 v2 ht
    have h01 : ∀ t, t < n → 0 ≤ x t ∧ x t ≤ 1 := fun t ht => ⟨(v2.1 t ht).2, (smp_b (v2.1 t ht).1).1⟩
    suffices H : ∀ (c r : Nat) (f : Int) (M5 : mM), r + c = m → AH M s M3 M5 → Xt M5 s 88 n x → ((f = 0 ∧ mI M5 (s + 35) = mI M2 (s + 35) ∧ ∀ r', r' < r → mI M (s + 22) (uu M3 s r') = 2 → ∀ i : Nat, (i : Int) < mny M s (uu M3 s r') → mayP M s (uu M3 s r') i → ¬ cw M s (cx M s (uu M3 s r') i) x < x (uu M3 s r')) ∨ (f = 1 ∧ (∀ k, k < n → mkd M3 s k → mI M (s + 22) k ≠ 3 → cw M s (cx M s k (pl M5 s k)) x ≤ x k) ∧ ∃ k, k < n ∧ mkd M3 s k ∧ mI M (s + 22) k ≠ 3 ∧ cw M s (cx M s k (pl M5 s k)) x < x k)) → h_MS_answer_89 G (d + 7) s f r M5 Q from
      H m 0 0 M2 (by omega) h2 X2 (Or.inl ⟨rfl, rfl, fun r' hr' => by omega⟩)
    intro c
    induction c with
    | zero =>
      intro r f M5 hr h5 X5 hf
      have er : r = m := by omega
      subst er
      have hf01 : f = 0 ∨ f = 1 := by rcases hf with q | q; exact Or.inl q.1; exact Or.inr q.1
      have e24 : mI M5 s 24 = r := by rw [h5.2.2.1.2.2.2.2.2.2 s (by omega)]; exact h24
      refine k_MS_answer_89 h5.1 ⟨by omega, by omega⟩ ⟨by omega, by omega⟩ ?_
      rw [e24]
      refine ⟨h5.2.1.k0, fun _ => ?_, fun w => by omega⟩
      rcases hf with ⟨q1, q2, q3⟩ | ⟨q1, q2, k, q3, q4, q5, q6⟩
      · subst q1
        refine k_MS_answer_77 h5.1 ⟨by omega, by omega⟩ ⟨fun _ => hQ M5 x h5 X5 ?_, fun w => absurd rfl w⟩
        obtain ⟨v1, v3, v4, v5, v6, -⟩ := v2
        have ep : pl M5 s = pl M2 s := by funext k; unfold pl; rw [q2]
        have hmax : ∀ k, mI M (s + 22) k = 1 → pl M2 s k = pl M s k := fun k hk => by unfold pl; rw [h2.2.2.2.2.2.2.2 k (by omega)]
        have hP2 : ∀ k, k < n → 0 < mny M s k → (pl M2 s k : Int) < mny M s k ∧ mayP M s k (pl M2 s k) := fun k hk hp => by
          have hw2 := AH.sw hAC h2
          have a := h2.2.2.2.2.2.2.1 k (by rw [hw2.1.1]; omega) (by rw [hw2.1.hm]; exact hp)
          rw [hw2.1.hm, hw2.may] at a
          exact ⟨by unfold pl; omega, a.2.2⟩
        refine ⟨v1, v3, v4, fun k hk hk2 hk1 => ?_, fun k hk hk2 hk1 i hi hmi => ?_, hR, hFx, fun z z1 z2 z3 z4 => v6 z (fun k hk hk2 hk3 => ?_) (fun k hk hk2 => ?_)⟩
        · rw [← hmax k hk1]
          exact v5 k hk hk2 (by omega)
        · obtain ⟨b1, b2, b3⟩ := e2 k hk ⟨hk2, by rw [i22]; omega⟩
          have euj : uu M3 s (mI M3 (s + 40) k).toNat = k := by unfold uu; omega
          have a := q3 (mI M3 (s + 40) k).toNat (by omega)
          rw [euj] at a
          have b := a hk1 i hi hmi
          grind
        · rcases hR k hk hk2 hk3 with ⟨c1, c2, -⟩ | ⟨c1, c2, -⟩
          · rw [hmax k c1]
            exact z1 k hk hk2 c1
          · have p := hP2 k hk c2
            exact z2 k hk hk2 c1 _ p.1 p.2
        · by_cases w3 : mI M (s + 22) k = 3
          · rw [v3 k hk w3]
            exact z4 k hk w3
          · have hnA : ¬ mkd M3 s k := fun w => hk2 ⟨w, w3⟩
            rw [v4 k hk hnA w3]
            exact z3 k hk hnA
      · subst q1
        refine an_settle hAC h5 (fun M6 x' h6 X6 v6 ep => ?_)
        obtain ⟨t', ht'⟩ := ms_ex hF n v6.1
        have hle : ∀ k, k < n → x' k ≤ x k := v6.2.2.2.2.2 x (fun j hj hj2 hj3 => by rw [ep]; exact q2 j hj hj2 hj3) (fun j hj hj2 => by
          by_cases w3 : mI M (s + 22) j = 3
          · rw [v6.2.1 j hj w3, v2.2.1 j hj w3]
            exact Rat.le_refl
          · have hnA : ¬ mkd M3 s j := fun w => hj2 ⟨w, w3⟩
            rw [v6.2.2.1 j hj hnA w3, v2.2.2.1 j hj hnA w3]
            exact Rat.le_refl)
        have hlt : x' k < x k := by
          have a := v6.2.2.2.1 k q3 q4 q5
          rw [ep] at a
          have hk5 := h5.2.2.2.2.2.2.1
          have hw5 := AH.sw hAC h5
          have hpos : 0 < mny M s k := by
            rcases hR k q3 q4 q5 with ⟨c1, c2, -⟩ | ⟨c1, c2, -⟩
            · omega
            · exact c2
          have p := hk5 k (by rw [hw5.1.1]; omega) (by rw [hw5.1.hm]; exact hpos)
          rw [hw5.1.hm] at p
          have hcx := cx_lt hG (k := k) (i := pl M5 s k) (by omega) (by unfold pl; omega)
          have b := cw_le hC hcx (f := x') (g := x) (fun b hb => hle _ (by have := tg_lt hG hcx hb; omega))
          grind
        have hs : sr x' n < sr x n := sr_lt n hle ⟨k, q3, hlt⟩
        exact ih t' (ms_lt hF ht ht' hs) x' M6 h6 X6 v6 ht'
    | succ c ihc =>
      intro r f M5 hr h5 X5 hf
      have hrm : r < m := by omega
      have hf01 : f = 0 ∨ f = 1 := by rcases hf with q | q; exact Or.inl q.1; exact Or.inr q.1
      have hw5 := AH.sw hAC h5
      obtain ⟨o5, V5, f5, W5, T5, R5, P5, k5⟩ := id h5
      have fe5 := f5.2.2.2.2.2.2
      have e24 : mI M5 s 24 = m := by rw [fe5 s (by omega)]; exact h24
      obtain ⟨a1, a2, a3, a4⟩ := e1 r hrm
      have huu : (uu M3 s r : Int) = mI M3 (s + 39) r := by unfold uu; omega
      refine k_MS_answer_89 o5 ⟨by omega, by omega⟩ ⟨by omega, by omega⟩ ?_
      rw [e24, V5.r22, V5.n39, fe5 (s + 39) (by omega), Int.toNat_natCast, ← huu]
      refine ⟨V5.k0, fun w => by omega, fun _ => ⟨V5.k39, by omega, (s_MS_improve (d := d + 1) (Or.inr rfl) o5 V5 (hw5.1.gw hG) (hw5.1.gb hC) (by rw [hw5.1.1]; exact hn) (by rw [hw5.1.1]; omega) W5 X5 h01).mono (fun y M6 h6 => ?_)⟩⟩
      obtain ⟨o6, W6, f6, hy⟩ := h6
      have w56 : sameW M5 M6 s := sameW.of f6 (by omega) (fun x _ _ => by omega) (by omega)
      have i22' : mI M5 (s + 22) = mI M (s + 22) := hw5.1.2.2.2 _ (by omega) (by omega)
      rw [i22', hw5.1.hm, hw5.may] at hy
      have hbet : ∀ k i, betP M5 s x 2 k i ↔ cw M s (cx M s k i) x < x k := fun k i => by
        unfold betP
        rw [if_neg (by omega), hw5.1.hw, hw5.1.hx]
      have hk : uu M3 s r < n := by omega
      have a3' : mI M (s + 22) (uu M3 s r) ≠ 3 := by rw [← i22]; exact a3.2
      rcases hy with ⟨y1, y2, y3⟩ | ⟨y1, y2, i, y3, y4, y5, y6⟩
      · subst y1
        have ep : pl M6 s = pl M5 s := by funext k; unfold pl; rw [y2]
        refine ⟨⟨by omega, by omega⟩, o6, fun v hv => ?_⟩
        have hvf : v = f := by split at hv <;> omega
        subst hvf
        refine ihc (r + 1) v M6 (by omega) ⟨o6, V5.fi f6, f5.trans (f6.mono (fun y q => by omega)), W6, T5.out f6 (fun y q => by omega), R5.out f6 (fun y q => by omega), P5.out w56 y2, fun k hk => by rw [y2]; exact k5 k hk⟩ (X5.out f6 (fun y q => by omega)) ?_
        rcases hf with ⟨q1, q2, q3⟩ | ⟨q1, q2, q3⟩
        · left
          refine ⟨q1, y2.trans q2, fun r' hr' c2 i hi hmi => ?_⟩
          by_cases z : r' = r
          · subst z
            exact fun w => y3 c2 i hi hmi ((hbet _ _).2 w)
          · exact q3 r' (by omega) c2 i hi hmi
        · right
          rw [ep]
          exact ⟨q1, q2, q3⟩
      · subst y1
        have hlt := (hbet _ _).1 y5
        have epl : ∀ k, pl M6 s k = if k = uu M3 s r then i else pl M5 s k := fun k => by
          unfold pl
          rw [y6]
          by_cases z : k = uu M3 s r
          · rw [if_pos z, if_pos z]; omega
          · rw [if_neg z, if_neg z]
        refine ⟨⟨by omega, by omega⟩, o6, fun v hv => ?_⟩
        have hv1 : v = 1 := by split at hv <;> omega
        subst hv1
        have P6 : PLo M6 s := by
          intro k hk1 hk2
          rw [w56.1.1] at hk1
          rw [w56.1.hm] at hk2 ⊢
          rw [w56.may, epl, y6]
          by_cases z : k = uu M3 s r
          · rw [if_pos z, if_pos z, z, hw5.1.hm, hw5.may]
            exact ⟨by omega, y3, y4⟩
          · rw [if_neg z, if_neg z]
            exact P5 k hk1 hk2
        refine ihc (r + 1) 1 M6 (by omega) ⟨o6, V5.fi f6, f5.trans (f6.mono (fun y q => by omega)), W6, T5.out f6 (fun y q => by omega), R5.out f6 (fun y q => by omega), P6, fun k hk => by
          rw [y6, if_neg (fun z => hk (by rw [z]; exact y2))]
          exact k5 k hk⟩ (X5.out f6 (fun y q => by omega)) (Or.inr ⟨rfl, fun k hk hk2 hk3 => ?_, uu M3 s r, hk, a3.1, a3', ?_⟩)
        · rw [epl]
          by_cases z : k = uu M3 s r
          · rw [if_pos z, z]
            grind
          · rw [if_neg z]
            rcases hf with ⟨q1, q2, q3⟩ | ⟨q1, q2, q3⟩
            · have ep : pl M5 s = pl M2 s := by funext k; unfold pl; rw [q2]
              rw [ep, ← v2.2.2.2.1 k hk hk2 hk3]
              exact Rat.le_refl
            · exact q2 k hk hk2 hk3
        · rw [epl, if_pos rfl]
          exact hlt
end AN
end
section
/-! The solver: answer, the whole. -/
section AN
variable {G : mG} {d s n : Nat} {M : mM} {F : Int}
theorem s_MS_answer (hF : Fall F) (hO : mOk M) (hV : Vk M s) (hG : GW M s) (hC : GB M s) (hn : mI M s 1 = n) (hW : Wk M s) (hT : Ct M s) (hR : Rm M s 88) (hP : PLo M s) (hL : LQ M s n) :
    Cv G y_MS_answer (d + 8) [vr s] M (anQ M s n) := by
  have h2 := hG.2.1
  refine k_MS_answer hO ⟨hV.k0, (s_MS_grow (d := d + 5) ⟨by omega, by omega⟩ hO hV hG).mono (fun M1 h1 => ?_)⟩
  have hfx := gv_fix hG hn hP h1
  obtain ⟨⟨ρ, t, g1⟩, -⟩ := h1
  have hrk := gv_rnk hG hn g1
  obtain ⟨o1, f1, -⟩ := g1
  have V1 := hV.fi f1
  have fe1 := f1.2.2.2.2.2.2
  refine ⟨o1, V1.k0, fun M2 e2 => ?_⟩
  have f2 : FI (fun x => x = s) M1 M2 := by rw [e2]; exact FI.ui rfl
  have fe2 := f2.2.2.2.2.2.2
  have o2 : mOk M2 := by rw [e2]; exact mOk_UI o1 ⟨by omega, by omega⟩
  have V2 := V1.fi f2
  have s2 : ∀ j, j ≠ 24 → mI M2 s j = mI M s j := fun j hj => by rw [e2, mI_UI, if_neg (fun w => hj w.2), fe1 s (by omega)]
  have s24 : mI M2 s 24 = 0 := by rw [e2, mI_UI, if_pos ⟨rfl, rfl⟩]
  have i36 : mI M2 (s + 36) = mI M1 (s + 36) := fe2 _ (by omega)
  have i22 : mI M2 (s + 22) = mI M (s + 22) := by rw [fe2 _ (by omega), fe1 _ (by omega)]
  have hn2 : mI M2 s 1 = n := by rw [s2 1 (by omega)]; exact hn
  have h40 : sm (fun k => if unk M2 s k then 1 else 0) n ≤ 40 := by
    obtain ⟨τ, w, l1, l2, l3, l4, l5, l6⟩ := hL
    have hsub := ins_sub hG hn hP hrk l1 l2
    refine Int.le_trans (sm_le n (fun k hk => ?_)) l6
    by_cases q : unk M2 s k
    · have q1 : mkd M1 s k := by have := q.1; rw [i36] at this; exact this
      have q2 : mI M (s + 22) k ≠ 3 := by have := q.2; rw [i22] at this; exact this
      rw [if_pos q, if_pos ⟨hsub k hk q1, q2⟩]
      omega
    · rw [if_neg q]
      split <;> omega
  refine s_an12 (G := G) (d := d + 7) V2 hn2 (by omega) h40 (fun m M3 hm h3 => ?_) n 0 0 M2 (by omega) ⟨⟨o2, FI.refl, fun j _ => rfl, s24⟩, fun r hr => by omega, fun k hk => by omega, fun f => rfl⟩
  obtain ⟨⟨o3, f3, s3, s34⟩, e1, e3, e4⟩ := h3
  have fe3 := f3.2.2.2.2.2.2
  have V3 := V2.fi f3
  have j36 : mI M3 (s + 36) = mI M1 (s + 36) := by rw [fe3 _ (by omega), i36]
  have j22 : mI M3 (s + 22) = mI M (s + 22) := by rw [fe3 _ (by omega), i22]
  have hmk : mkd M3 s = mkd M1 s := by funext k; unfold mkd; rw [j36]
  have hu : ∀ k, unk M2 s k ↔ unk M3 s k := fun k => by unfold unk; rw [j36, j22, i36, i22]
  have hfar : ∀ x, x ≠ s → x ≠ s + 36 → x ≠ s + 39 → x ≠ s + 40 → mI M3 x = mI M x := fun x w1 w2 w3 w4 => by rw [fe3 x (by omega), fe2 x w1, fe1 x w2]
  have hs3 : ∀ j, j ≠ 24 → mI M3 s j = mI M s j := fun j hj => (s3 j hj).trans (s2 j hj)
  have hsw : sameW M M3 s := ⟨⟨hs3 1 (by omega), hs3 2 (by omega), hs3 3 (by omega), fun x a b => hfar x (by omega) (by omega) (by omega) (by omega)⟩, hs3 17 (by omega), hfar _ (by omega) (by omega) (by omega) (by omega)⟩
  have f03 : FI (aS s) M M3 := ((f1.mono (fun y q => by omega)).trans (f2.mono (fun y q => by omega))).trans (f3.mono (fun y q => by omega))
  have hAC : AC M s n m ρ M3 := by
    refine ⟨hG, hC, hn, hm, hL, by rw [hmk]; exact hrk, by rw [hmk]; exact hfx, hP, hsw, s34, fun r hr => ?_, fun k hk hk2 => e3 k hk ((hu k).2 hk2), fun f => ?_⟩
    · obtain ⟨a1, a2, a3, a4⟩ := e1 r hr
      exact ⟨a1, a2, (hu _).1 a3, a4⟩
    · have a := e4 f
      have b : sm (fun r => f (uu M3 s r)) m = sm (fun r => f (mI M3 (s + 39) r).toNat) m := rfl
      rw [b, a]
      refine sm_congr n (fun k hk => ?_)
      by_cases q : unk M2 s k
      · rw [if_pos q, if_pos ((hu k).1 q)]
      · rw [if_neg q, if_neg (fun w => q ((hu k).2 w))]
  have e35 : mI M3 (s + 35) = mI M (s + 35) := hfar _ (by omega) (by omega) (by omega) (by omega)
  have hAH : AH M s M3 M3 := by
    refine ⟨o3, V3, FI.refl, ?_, ?_, ?_, hP.out hsw e35, fun k _ => by rw [e35]⟩
    · exact ((hW.far f1 (fun y q => by omega)).far f2 (fun y q => by omega)).far f3 (fun y q => by omega)
    · exact ((hT.out f1 (fun y q => by omega)).out f2 (fun y q => by omega)).out f3 (fun y q => by omega)
    · exact ((hR.out f1 (fun y q => by omega)).out f2 (fun y q => by omega)).out f3 (fun y q => by omega)
  refine an_settle hAC hAH (fun M6 x h6 X6 v6 _ => ?_)
  obtain ⟨t', ht'⟩ := ms_ex hF n v6.1
  refine s_an89 hF hAC (fun M' x' h' X' r' => ?_) t' x M6 h6 X6 v6 ht'
  obtain ⟨o7, V7, f7, W7, T7, R7, P7, k7⟩ := h'
  have fe7 := f7.2.2.2.2.2.2
  exact ⟨o7, f03.trans (f7.mono (fun y q => by omega)), fun j hj => by rw [fe7 s (by omega)]; exact hs3 j hj, W7, T7, R7, P7, k7, _, ρ, x', X', r'⟩
end AN
end
section
/-! The solver: a better choice of max raises the values. -/
section RU
variable {M M' : mM} {s n : Nat} {A A' : Nat → Prop} {ρ ρ' σ σ' : Nat → Nat} {x y : Nat → Rat}
theorem Res.sw (h : Res M s n A ρ σ x) (w : sameW M M' s) : Res M' s n A ρ σ x := by
  unfold Res Rnk Fix at h ⊢
  rw [w.1.hm, w.may, w.1.hld, w.1.hx, w.1.hw, w.1.2.2.2 (s + 22) (by omega) (by omega)]
  exact h
theorem Res.sig (h : Res M s n A ρ σ x) (w : ∀ k, mI M (s + 22) k = 1 → σ' k = σ k) : Res M s n A ρ σ' x := by
  obtain ⟨h1, h2, h3, h4, h5, h6, h7, h8⟩ := h
  refine ⟨h1, h2, h3, fun k hk hA h => by rw [w k h]; exact h4 k hk hA h, h5, fun k hk hA h => ?_, ⟨h7.1, fun k hk hA => ⟨fun c => by rw [w k c]; exact (h7.2 k hk hA).1 c, (h7.2 k hk hA).2⟩⟩, fun z z1 z2 z3 z4 => h8 z (fun k hk hA c => by rw [← w k c]; exact z1 k hk hA c) z2 z3 z4⟩
  rcases h6 k hk hA h with c | c
  · left
    rw [w k c.1]
    exact c
  · exact Or.inr c
theorem res_up (hG : GW M s) (hC : GB M s) (hn : mI M s 1 = n) (h : Res M s n A ρ σ x) (h' : Res M s n A' ρ' σ' y) {k : Nat} (hk : k < n) (h1 : mI M (s + 22) k = 1) (hi : (σ' k : Int) < mny M s k) (hb : x k < cw M s (cx M s k (σ' k)) x) (hs : ∀ j, mI M (s + 22) j = 1 → j ≠ k → σ' j = σ j) : (∀ j, j < n → x j ≤ y j) ∧ x k < y k := by
  obtain ⟨a1, a2, a3, a4, a5, a6, a7, a8⟩ := h
  obtain ⟨b1, b2, b3, b4, b5, b6, b7, b8⟩ := h'
  have u0 := up0 hG hC hn (x := x) a6 b7.1 b7.2 a3 a4 a5 (fun j hj c => by
    by_cases z : j = k
    · subst z; exact Or.inr ⟨hi, hb⟩
    · exact Or.inl (hs j c z))
  have hnn : ∀ (j i : Nat), j < n → (i : Int) < mny M s j → 0 ≤ cw M s (cx M s j i) x := fun j i hj hi => by
    have hcx := cx_lt hG (k := j) (i := i) (by omega) hi
    have a := cw_le hC hcx (f := fun _ => 0) (g := x) (fun b hb => (a1 _ (by have := tg_lt hG hcx hb; omega)).2)
    rw [cw_const hC hcx] at a
    exact a
  have hle : ∀ j, j < n → x j ≤ y j := by
    refine b8 x (fun j hj hA c => ?_) (fun j hj hA c i hi hm => ?_) u0 (fun j hj c => by rw [a2 j hj c]; exact Rat.le_refl)
    · by_cases z : j = k
      · subst z
        exact Rat.le_of_lt hb
      · rw [hs j c z]
        by_cases w : A j
        · rw [← a4 j hj w c]
          exact Rat.le_refl
        · rw [a3 j hj w (by omega)]
          have hin : (σ j : Int) < mny M s j := by
            rcases b6 j hj hA (by omega) with q | q
            · rw [← hs j c z]; exact q.2.1
            · omega
          exact hnn j (σ j) hj hin
    · by_cases w : A j
      · exact a5 j hj w c i hi hm
      · rw [a3 j hj w (by omega)]
        exact hnn j i hj hi
  refine ⟨hle, ?_⟩
  have hkI : (k : Int) < mI M s 1 := by omega
  have hA' : A' k := by
    refine Classical.byContradiction (fun w => ?_)
    have l := (b7.2 k hk w).1 h1 hi
    have c := cw_below (x := x) hG hC hkI hi (c := 0) (T := fun t => ¬ A' t) (fun t ht ha => u0 t (by omega) ha) (fun ⟨b, w1, w2⟩ => l ⟨b, w1, Classical.byContradiction (fun w3 => w2 w3)⟩)
    have d := (a1 k hk).2
    have e := c.1
    grind
  have hcx := cx_lt hG hkI hi
  have e := cw_le hC hcx (f := x) (g := y) (fun b hb => hle _ (by have := tg_lt hG hcx hb; omega))
  rw [b4 k hk hA' h1]
  grind
end RU
/-- how far the values are from one -/
theorem smp_co {x : Rat} (h : Smp 21 x) (h0 : 0 ≤ x) : Smp 21 (1 - x) ∧ 0 ≤ 1 - x := by
  obtain ⟨E, z, e0, e1, e2, e3, e4⟩ := h
  refine ⟨⟨E, E - z, e0, e1, ?_, by grind, by grind⟩, by grind⟩
  rw [Rat.intCast_sub, ← e2]
  grind
theorem sr_co_lt {n : Nat} {x y : Nat → Rat} (h : ∀ j, j < n → x j ≤ y j) {k : Nat} (hk : k < n) (hl : x k < y k) : sr (fun j => 1 - y j) n < sr (fun j => 1 - x j) n := by
  refine sr_lt n (fun j hj => ?_) ⟨k, hk, ?_⟩
  · have := h j hj
    grind
  · show 1 - y k < 1 - x k
    grind
/-- told commands are commands -/
def TW (M : mM) (s : Nat) : Prop := ∀ k : Nat, (k : Int) < mI M s 1 → 0 ≤ mI M (s + 32) k ∧ (0 < mny M s k → mI M (s + 32) k < mny M s k)
section LK
variable {M M1 : mM} {s n : Nat}
theorem look_lq (hG : GW M s) (hn : mI M s 1 = n) (h : gvQ M s 0 M1) (hl : lokQ M1 s) : LQ M1 s n := by
  obtain ⟨⟨ρ, t, h1⟩, h2⟩ := h
  have f1 := h1.2.1
  have hw : sameW M M1 s := sameW.of f1 (by omega) (fun x _ _ => by omega) (by omega)
  have i22 : mI M1 (s + 22) = mI M (s + 22) := hw.1.2.2.2 _ (by omega) (by omega)
  obtain ⟨w, l1, l2, l3⟩ := hl
  have hn1 : mI M1 s 1 = n := by rw [hw.1.1]; exact hn
  rw [hn1, Int.toNat_natCast] at l2 l3
  refine ⟨mI M1 (s + 36), w, fun k hk c => ?_, fun k hk h0 => ⟨fun c i hi hm hld => ?_, fun c hp => ?_⟩, fun k hk hk2 hk3 => ?_, fun k hk => ?_, l2, ?_⟩
  · have a := (h1.2.2 k (by omega)).2.1 (by rw [← i22]; exact c)
    omega
  · rw [hw.1.hm] at hi
    rw [hw.may] at hm
    rw [hw.1.hld] at hld
    rw [i22] at c
    exact h2 k (by omega) h0 (Or.inl ⟨c, i, hi, Or.inl ⟨Or.inr rfl, hm⟩, (leadQ_LD hG (by omega) hi).2 hld⟩)
  · rw [hw.1.hm] at hp ⊢
    rw [hw.may, hw.1.hld]
    rw [i22] at c
    refine Classical.byContradiction (fun q => ?_)
    refine h2 k (by omega) h0 (Or.inr ⟨c, hp, fun i hi hu => ?_⟩)
    have hm : mayP M s k i := by
      rcases hu with u | u
      · exact u.2
      · exact absurd (Or.inl (by omega)) u.1
    exact (leadQ_LD hG (by omega) hi).2 (Classical.byContradiction (fun q2 => q ⟨i, hi, hm, q2⟩))
  · obtain ⟨a1, a2, D, a3, a4, a5⟩ := (l1 k (by omega)).1 ⟨hk2, hk3⟩
    refine ⟨a1, fun i hi hm => ?_⟩
    have := a5 i hi hm
    have e : cx M1 s k i = (mI M1 (s + 23) k).toNat + i := rfl
    rw [e]
    omega
  · by_cases q : unk M1 s k
    · exact ((l1 k (by omega)).1 q).1
    · rw [(l1 k (by omega)).2 q]
      omega
  · exact l3
end LK
end
section
/-! The solver: max's choices are bettered until none is better. -/
theorem sameW.symm {M M' : mM} {s : Nat} (h : sameW M M' s) : sameW M' M s :=
  ⟨⟨h.1.1.symm, h.1.2.1.symm, h.1.2.2.1.symm, fun x a b => (h.1.2.2.2 x a b).symm⟩, h.2.1.symm, h.2.2.symm⟩
def WH (M : mM) (s : Nat) (M2 : mM) : Prop := mOk M2 ∧ Vk M2 s ∧ FI (aS s) M M2 ∧ (∀ j, j ≠ 24 → mI M2 s j = mI M s j) ∧ Wk M2 s ∧ Ct M2 s ∧ Rm M2 s 88 ∧ PLo M2 s
theorem WH.sw {M M2 : mM} {s : Nat} (h : WH M s M2) : sameW M M2 s := by
  obtain ⟨-, -, f, k, -⟩ := h
  have fe := f.2.2.2.2.2.2
  exact ⟨⟨k 1 (by omega), k 2 (by omega), k 3 (by omega), fun x a b => fe x (by omega)⟩, k 17 (by omega), fe _ (by omega)⟩
section WO
variable {G : mG} {d s n : Nat} {M : mM} {F l2 : Int} {Q : Int → mM → Prop}
theorem wk_answer {M5 : mM} (hF : Fall F) (hG : GW M s) (hC : GB M s) (hn : mI M s 1 = n) (hL : LQ M s n) (hl : i32 l2) (h : WH M s M5)
    (hQ : ∀ M6 x A ρ, WH M s M6 → Xt M6 s 88 n x → Res M s n A ρ (pl M5 s) x → Res M s n A ρ (pl M6 s) x → h_MS_work_72 G (d + 8) s l2 0 0 M6 Q) : h_MS_work_57 G (d + 8) s l2 1 M5 Q := by
  have hw := h.sw
  obtain ⟨o5, V5, f5, k5, W5, T5, R5, P5⟩ := h
  refine k_MS_work_57 o5 hl ⟨by omega, by omega⟩ ⟨fun w => by omega, fun _ => ⟨V5.k0, (s_MS_answer (d := d) (n := n) hF o5 V5 (hw.1.gw hG) (hw.1.gb hC) (by rw [hw.1.1]; exact hn) W5 T5 R5 P5 (hw.lq hL)).mono (fun M6 h6 => ?_)⟩⟩
  obtain ⟨o6, f6, k6, W6, T6, R6, P6, p6, A, ρ, x, X6, r6⟩ := h6
  have hr := r6.sw hw.symm
  have i22 : mI M5 (s + 22) = mI M (s + 22) := hw.1.2.2.2 _ (by omega) (by omega)
  exact ⟨o6, hQ M6 x A ρ ⟨o6, V5.fi f6, f5.trans f6, fun j hj => (k6 j hj).trans (k5 j hj), W6, T6, R6, P6⟩ X6 hr (hr.sig (fun k hk => by unfold pl; rw [p6 k (by rw [i22]; omega)]))⟩
theorem s_wk72 (hF : Fall F) (hG : GW M s) (hC : GB M s) (hn : mI M s 1 = n) (hL : LQ M s n) (hl : i32 l2)
    (hQ : ∀ M' x, WH M s M' → Xt M' s 88 n x → (∀ k, k < n → Smp 21 (x k) ∧ 0 ≤ x k) → (∀ k, k < n → mI M (s + 22) k = 3 → x k = 1) → h_MS_work_107 G (d + 8) s l2 0 M' Q) : ∀ (t : Nat) (x : Nat → Rat) (A : Nat → Prop) (ρ : Nat → Nat) (M2 : mM), WH M s M2 → Xt M2 s 88 n x → Res M s n A ρ (pl M2 s) x → sr (fun k => 1 - x k) n * (F : Rat) = ((t : Int) : Rat) → h_MS_work_72 G (d + 8) s l2 0 0 M2 Q := by
  have hn5 := hG.2.1
  intro t
  induction t using Nat.strongRecOn with
  | ind t ih =>
    intro x A ρ M2 h2 X2 r2 ht
    have h01 : ∀ t, t < n → 0 ≤ x t ∧ x t ≤ 1 := fun t ht => ⟨(r2.1 t ht).2, (smp_b (r2.1 t ht).1).1⟩
    suffices H : ∀ (c k : Nat) (M5 : mM), k + c = n → WH M s M5 → Xt M5 s 88 n x → mI M5 (s + 35) = mI M2 (s + 35) → h_MS_work_72 G (d + 8) s l2 0 k M5 Q from
      H n 0 M2 (by omega) h2 X2 rfl
    intro c
    induction c with
    | zero =>
      intro k M5 hk h5 X5 e5
      have ek : k = n := by omega
      subst ek
      have hw5 := h5.sw
      refine k_MS_work_72 h5.1 hl ⟨by omega, by omega⟩ ⟨by omega, by omega⟩ ?_
      rw [hw5.1.1, hn]
      refine ⟨h5.2.1.k0, fun _ => k_MS_work_57 h5.1 hl ⟨by omega, by omega⟩ ⟨fun _ => hQ M5 x h5 X5 r2.1 r2.2.1, fun w => absurd rfl w⟩, fun w => absurd (Or.inl (by omega)) w⟩
    | succ c ihc =>
      intro k M5 hk h5 X5 e5
      have hw5 := h5.sw
      obtain ⟨o5, V5, f5, k5, W5, T5, R5, P5⟩ := id h5
      refine k_MS_work_72 o5 hl ⟨by omega, by omega⟩ ⟨by omega, by omega⟩ ?_
      rw [hw5.1.1, hn]
      refine ⟨V5.k0, fun w => by rcases w with w | w; omega; exact absurd rfl w, fun _ => (s_MS_improve (d := d + 2) (Or.inl rfl) o5 V5 (hw5.1.gw hG) (hw5.1.gb hC) (by rw [hw5.1.1]; exact hn) (by rw [hw5.1.1]; omega) W5 X5 h01).mono (fun y M6 h6 => ?_)⟩
      obtain ⟨o6, W6, f6, hy⟩ := h6
      have w56 : sameW M5 M6 s := sameW.of f6 (by omega) (fun x _ _ => by omega) (by omega)
      have i22' : mI M5 (s + 22) = mI M (s + 22) := hw5.1.2.2.2 _ (by omega) (by omega)
      rw [i22', hw5.1.hm, hw5.may] at hy
      have s6 : ∀ j, j ≠ 24 → mI M6 s j = mI M s j := fun j hj => by rw [f6.2.2.2.2.2.2 s (by omega)]; exact k5 j hj
      rcases hy with ⟨y1, y2, y3⟩ | ⟨y1, y2, i, y3, y4, y5, y6⟩
      · subst y1
        exact ⟨⟨by omega, by omega⟩, o6, ihc (k + 1) M6 (by omega) ⟨o6, V5.fi f6, f5.trans (f6.mono (fun y q => by omega)), s6, W6, T5.out f6 (fun y q => by omega), R5.out f6 (fun y q => by omega), P5.out w56 y2⟩ (X5.out f6 (fun y q => by omega)) (y2.trans e5)⟩
      · subst y1
        have hlt : x k < cw M s (cx M s k i) x := by
          unfold betP at y5
          rw [if_pos rfl, hw5.1.hw, hw5.1.hx] at y5
          exact y5
        have epl : ∀ j, pl M6 s j = if j = k then i else pl M5 s j := fun j => by
          unfold pl
          rw [y6]
          by_cases z : j = k
          · rw [if_pos z, if_pos z]; omega
          · rw [if_neg z, if_neg z]
        have P6 : PLo M6 s := by
          intro j hj1 hj2
          rw [w56.1.1] at hj1
          rw [w56.1.hm] at hj2 ⊢
          rw [w56.may, epl, y6]
          by_cases z : j = k
          · rw [if_pos z, if_pos z, z, hw5.1.hm, hw5.may]
            exact ⟨by omega, y3, y4⟩
          · rw [if_neg z, if_neg z]
            exact P5 j hj1 hj2
        have h6 : WH M s M6 := ⟨o6, V5.fi f6, f5.trans (f6.mono (fun y q => by omega)), s6, W6, T5.out f6 (fun y q => by omega), R5.out f6 (fun y q => by omega), P6⟩
        have hw6 := h6.sw
        refine ⟨⟨by omega, by omega⟩, o6, k_MS_work_72 o6 hl ⟨by omega, by omega⟩ ⟨by omega, by omega⟩ ⟨h6.2.1.k0, fun _ => wk_answer hF hG hC hn hL hl h6 (fun M7 y' A' ρ' h7 X7 r7 r7' => ?_), fun w => absurd (Or.inr (fun z => by omega)) w⟩⟩
        obtain ⟨t', ht'⟩ := ms_ex (x := fun k => 1 - y' k) hF n (fun j hj => smp_co (r7.1 j hj).1 (r7.1 j hj).2)
        have e52 : pl M5 s = pl M2 s := by funext j; unfold pl; rw [e5]
        have hup := res_up hG hC hn r2 r7 (k := k) (by omega) y2 (by rw [epl, if_pos rfl]; exact y3) (by rw [epl, if_pos rfl]; exact hlt) (fun j hj hjk => by rw [epl, if_neg hjk, e52])
        exact ih t' (ms_lt hF ht ht' (sr_co_lt hup.1 (k := k) (by omega) hup.2)) y' A' ρ' M7 h7 X7 r7' ht'
end WO
end
section
/-! The solver: work. -/
abbrev kS (s w : Nat) : Nat → Prop := fun x => aS s x ∨ x = s + 30 ∨ eS s (68 + 5 * w) x
def wkQ (M : mM) (s n w : Nat) (r : Int) (M' : mM) : Prop := mOk M' ∧ FI (kS s w) M M' ∧ (∀ j, j ≠ 17 → j ≠ 24 → mI M' s j = mI M s j) ∧ Wk M' s ∧ Ct M' s ∧ Rm M' s 88 ∧ Rm M' s (68 + 5 * w) ∧ (∀ j, j ≠ w → mI M' (s + 30) j = mI M (s + 30) j) ∧ ((r = 0 ∧ mI M' (s + 30) w = 1 ∧ ∃ x : Nat → Rat, Xt M' s (68 + 5 * w) n x ∧ (∀ k, k < n → Smp 21 (x k) ∧ 0 ≤ x k) ∧ (∀ k, k < n → mI M (s + 22) k = 3 → x k = 1)) ∨ ((r = 5 ∨ r = 6) ∧ mI M' (s + 30) w = 0))
theorem Xt.out2 {S : Nat → Prop} {M M' : mM} {s e n : Nat} {x : Nat → Rat} (h : Xt M s e n x) (k : FI S M M') (hs : ∀ i y, i < n → S y → y < s + e + 25 * i ∨ s + e + 25 * i + 4 < y) : Xt M' s e n x := by
  intro i hi
  obtain ⟨h1, h2, h3⟩ := h i hi
  exact ⟨(h1.out k (fun y q => hs i y hi q)).1, h2.out h1 k (fun y q => hs i y hi q), by rw [fv_out h1 k (fun y q => hs i y hi q), h3]⟩
theorem Rm.out2 {S : Nat → Prop} {M M' : mM} {s e : Nat} (h : Rm M s e) (k : FI S M M') (hs : ∀ i y, i < 512 → S y → y < s + e + 25 * i ∨ s + e + 25 * i + 4 < y) : Rm M' s e :=
  fun i hi => (h i hi).out k (fun y q => hs i y hi q)
theorem wk_f1 {s w i y : Nat} (hw : w = 0 ∨ w = 2) (hi : i < 512) (q : aS s y) : y < s + (68 + 5 * w) + 25 * i ∨ s + (68 + 5 * w) + 25 * i + 4 < y := by
  rcases hw with z | z <;> subst z <;> omega
theorem wk_f2 {s w y : Nat} (hw : w = 0 ∨ w = 2) (q : y = s + 30 ∨ eS s (68 + 5 * w) y) : y < s + 12868 := by
  rcases hw with z | z <;> subst z <;> omega
theorem wk_f3 {s w i y : Nat} (hw : w = 0 ∨ w = 2) (hi : i < 512) (q : y = s + 30 ∨ eS s (68 + 5 * w) y) : y < s + 88 + 25 * i ∨ s + 88 + 25 * i + 4 < y := by
  rcases hw with z | z <;> subst z <;> omega
theorem wk_f4 {s w y : Nat} (q : y = s + 30 ∨ eS s (68 + 5 * w) y) : y = s + 30 ∨ s + 68 ≤ y := by
  rcases q with q | q
  · exact Or.inl q
  · exact Or.inr (by have := q.1; omega)
section WO
variable {G : mG} {d s n w : Nat} {M : mM} {F : Int}
theorem s_wk107 {M9 : mM} {x : Nat → Rat} {Q : Int → mM → Prop} (hw : w = 0 ∨ w = 2) (hn5 : n ≤ 512) (hn : mI M9 s 1 = n) (o9 : mOk M9) (V9 : Vk M9 s) (X9 : Xt M9 s 88 n x) (R9 : Rm M9 s (68 + 5 * w))
    (hQ : ∀ M', mOk M' → FI (fun y => y = s + 30 ∨ eS s (68 + 5 * w) y) M9 M' → Xt M' s (68 + 5 * w) n x → Rm M' s (68 + 5 * w) → (∀ j, mI M' (s + 30) j = if j = w then 1 else mI M9 (s + 30) j) → Q 0 M') : h_MS_work_107 G (d + 8) s w 0 M9 Q := by
  suffices H : ∀ (c k : Nat) (M1 : mM), k + c = n → mOk M1 → FI (eS s (68 + 5 * w)) M9 M1 → Xt M1 s (68 + 5 * w) k x → Rm M1 s (68 + 5 * w) → h_MS_work_107 G (d + 8) s w k M1 Q from
    H n 0 M9 (by omega) o9 FI.refl (fun k hk => by omega) R9
  intro c
  induction c with
  | zero =>
    intro k M1 hk o1 f1 X1 R1
    have ek : k = n := by omega
    subst ek
    have V1 := V9.fi f1
    have fe := f1.2.2.2.2.2.2
    refine k_MS_work_107 o1 ⟨by omega, by omega⟩ ⟨by omega, by omega⟩ ?_
    rw [fe s (fun q => by have := q.1; omega), hn, V1.r12, V1.n30, Int.toNat_natCast]
    refine ⟨V1.k0, fun _ => ⟨V1.k30, by omega, fun M2 e2 => ?_⟩, fun q => by omega⟩
    have f2 : FI (fun y => y = s + 30) M1 M2 := by rw [e2]; exact FI.ui rfl
    have o2 : mOk M2 := by rw [e2]; exact mOk_UI o1 ⟨by omega, by omega⟩
    refine hQ M2 o2 ((f1.mono (fun y q => Or.inr q)).trans (f2.mono (fun y q => Or.inl q))) (X1.out f2 (fun y q => by omega)) (R1.out f2 (fun y q => by omega)) (fun j => ?_)
    rw [e2, mI_UI, fe (s + 30) (fun q => by have := q.1; omega)]
    by_cases z : j = w
    · rw [if_pos ⟨rfl, z⟩, if_pos z]
    · rw [if_neg (fun q => z q.2), if_neg z]
  | succ c ih =>
    intro k M1 hk o1 f1 X1 R1
    have V1 := V9.fi f1
    have fe := f1.2.2.2.2.2.2
    have xk : Fq M1 (s + 88 + 25 * k) 56 ∧ Fc M1 (s + 88 + 25 * k) ∧ fv M1 (s + 88 + 25 * k) = x k := (X9.out2 f1 (fun i y hi q => by rcases hw with z | z <;> subst z <;> omega)) k (by omega)
    have rk := R1 k (by omega)
    have ea : mR M1 (s + 29) (3 * (k : Int) + (w : Int)).toNat = s + (68 + 5 * w) + 25 * k := by
      rw [show (3 * (k : Int) + (w : Int)).toNat = 3 * k + w by first | rfl | omega, V1.f29 k w (by omega) (by omega)]
      omega
    refine k_MS_work_107 o1 ⟨by omega, by omega⟩ ⟨by omega, by omega⟩ ?_
    rw [fe s (fun q => by have := q.1; omega), hn, V1.r11, V1.r21, V1.n29, V1.n38, Int.toNat_natCast, ea, Int.toNat_natCast, V1.f38 k (by omega)]
    refine ⟨V1.k0, fun q => by omega, fun _ => ⟨V1.k29, by omega, V1.k38, by omega, rk.1.1, (s_MF_copy o1 rk xk.1 (by rcases hw with z | z <;> subst z <;> omega) xk.1.2.1.1.2.2.2.2.2.2 xk.1.2.2.1.1.2.2.2.2.2.2).mono (fun M2 h2 => ?_)⟩⟩
    obtain ⟨o2, f2, F2, w4, w5, w6⟩ := h2
    have C2 := fc_copy xk.2.1 w4 w5 w6
    have f2' : FI (eS s (68 + 5 * w)) M1 M2 := f2.mono (fun y q => by have q' : s + (68 + 5 * w) + 25 * k ≤ y ∧ y ≤ s + (68 + 5 * w) + 25 * k + 4 := q; omega)
    exact ⟨o2, ih (k + 1) M2 (by omega) o2 (f1.trans f2') (X1.put (x' := x) f2 F2 C2.1 (C2.2.trans xk.2.2) (fun j hj => by
      by_cases z : j = k
      · exact Or.inl z
      · exact Or.inr ⟨by omega, rfl⟩)) (R1.put (by omega) f2 F2.ft)⟩
theorem s_MS_work {q : Int} (hF : Fall F) (hq : 0 ≤ q ∧ q ≤ 2) (hw : w = 0 ∨ w = 2) (hO : mOk M) (hV : Vk M s) (hG : GW M s) (hC : GB M s) (hn : mI M s 1 = n) (hT : TW M s) (hW : Wk M s) (hCt : Ct M s) (hR : Rm M s 88) (hRw : Rm M s (68 + 5 * w))
    {P : Int → Prop} (hP : ∀ (M3 M8 : mM) (y : Int), GW M3 s → mI M3 s 17 = q → (∀ j, j ≠ 17 → mI M3 s j = mI M s j) → (∀ y, y ≠ s → y ≠ s + 30 → mI M3 y = mI M y) → gvQ M3 s 0 M8 → lokX M8 s y → P y) :
    Ci G y_MS_work (d + 9) [vr s, vi q, vi w] M (fun r M' => wkQ M s n w r M' ∧ P r) := by
  have hn5 := hG.2.1
  refine k_MS_work hO ⟨by omega, by omega⟩ ⟨by omega, by omega⟩ ⟨hV.k0, fun M2 e2 => ?_⟩
  have f2 : FI (fun y => y = s) M M2 := by rw [e2]; exact FI.ui rfl
  have o2 : mOk M2 := by rw [e2]; exact mOk_UI hO ⟨by omega, by omega⟩
  have V2 := hV.fi f2
  have s2 : ∀ j, j ≠ 17 → mI M2 s j = mI M s j := fun j hj => by rw [e2, mI_UI, if_neg (fun w => hj w.2)]
  rw [V2.r12, V2.n30, Int.toNat_natCast]
  refine ⟨V2.k30, by omega, fun M3 e3 => ?_⟩
  have f3 : FI (fun y => y = s + 30) M2 M3 := by rw [e3]; exact FI.ui rfl
  have o3 : mOk M3 := by rw [e3]; exact mOk_UI o2 ⟨by omega, by omega⟩
  have V3 := V2.fi f3
  have h30 : ∀ j, mI M3 (s + 30) j = if j = w then 0 else mI M (s + 30) j := fun j => by
    rw [e3, mI_UI, f2.2.2.2.2.2.2 (s + 30) (by omega)]
    by_cases z : j = w
    · rw [if_pos ⟨rfl, z⟩, if_pos z]
    · rw [if_neg (fun q => z q.2), if_neg z]
  have s3 : ∀ j, j ≠ 17 → mI M3 s j = mI M s j := fun j hj => by rw [f3.2.2.2.2.2.2 s (by omega)]; exact s2 j hj
  have g3 : ∀ y, y ≠ s → y ≠ s + 30 → mI M3 y = mI M y := fun y a b => by rw [f3.2.2.2.2.2.2 y b, f2.2.2.2.2.2.2 y a]
  have G3 : sameG M M3 s := ⟨s3 1 (by omega), s3 2 (by omega), s3 3 (by omega), fun y a b => g3 y (by omega) (by omega)⟩
  refine (x_MS_look (d := d + 5) o3 V3 (G3.gw hG)).mono (fun y M8 h8 => ?_)
  obtain ⟨h8, hlx⟩ := h8
  have hgv := h8
  have pY : P y := hP M3 M8 y (G3.gw hG) (by rw [f3.2.2.2.2.2.2 s (by omega), e2, mI_UI, if_pos ⟨rfl, rfl⟩]) s3 g3 hgv hlx
  obtain ⟨hy, hy0⟩ := hlx.q (by obtain ⟨⟨ρ, t, o, -⟩, -⟩ := hgv; exact o)
  clear hlx
  obtain ⟨⟨ρ, t, o8, f8, -⟩, -⟩ := h8
  have V8 := V3.fi f8
  have hw8 : sameW M3 M8 s := sameW.of f8 (by omega) (fun x _ _ => by omega) (by omega)
  have g8 : ∀ y, y ≠ s → y ≠ s + 30 → y ≠ s + 36 → mI M8 y = mI M y := fun y a b c => by rw [f8.2.2.2.2.2.2 y c, g3 y a b]
  have s8 : ∀ j, j ≠ 17 → mI M8 s j = mI M s j := fun j hj => by rw [f8.2.2.2.2.2.2 s (by omega)]; exact s3 j hj
  have h308 : ∀ j, mI M8 (s + 30) j = if j = w then 0 else mI M (s + 30) j := fun j => by rw [f8.2.2.2.2.2.2 (s + 30) (by omega)]; exact h30 j
  have W8 : Wk M8 s := ((hW.far f2 (fun y q => by omega)).far f3 (fun y q => by omega)).far f8 (fun y q => by omega)
  have C8 : Ct M8 s := ((hCt.out f2 (fun y q => by omega)).out f3 (fun y q => by omega)).out f8 (fun y q => by omega)
  have R8 : ∀ e, 68 ≤ e → Rm M s e → Rm M8 s e := fun e he h => ((h.out f2 (fun y q => by omega)).out f3 (fun y q => by omega)).out f8 (fun y q => by omega)
  have f08 : FI (kS s w) M M8 := ((f2.mono (fun y q => by omega)).trans (f3.mono (fun y q => by omega))).trans (f8.mono (fun y q => by omega))
  refine ⟨⟨by omega, by omega⟩, o8, fun y0 => ?_, fun y0 => ⟨⟨o8, f08, fun j a b => s8 j a, W8, C8, R8 88 (by omega) hR, R8 _ (by omega) hRw, fun j hj => by rw [h308, if_neg hj], Or.inr ⟨by omega, by rw [h308, if_pos rfl]⟩⟩, pY⟩⟩
  rw [y0] at pY
  have hL8 := look_lq (G3.gw hG) (by rw [G3.1]; exact hn) hgv (hy0 y0)
  have G8 : sameG M M8 s := G3.trans hw8.1
  suffices H : ∀ (c k : Nat) (M9 : mM), k + c = n → mOk M9 → FI (fun y => y = s + 35) M8 M9 → (∀ j, j < k → mI M9 (s + 35) j = if mI M8 s 17 = mI M8 (s + 22) j then mI M8 (s + 32) j else 0) → h_MS_work_26 G (d + 8) s w k M9 (fun r M' => wkQ M s n w r M' ∧ P r) from
    H n 0 M8 (by omega) o8 FI.refl (fun j hj => by omega)
  intro c
  induction c with
  | zero =>
    intro k M9 hk o9 f9 p9
    have ek : k = n := by omega
    subst ek
    have V9 := V8.fi f9
    have fe9 := f9.2.2.2.2.2.2
    have hw9 : sameW M8 M9 s := sameW.of f9 (by omega) (fun x _ _ => by omega) (by omega)
    have G9 : sameG M M9 s := G8.trans hw9.1
    have n9 : mI M9 s 1 = k := by rw [G9.1]; exact hn
    have i22 : mI M9 (s + 22) = mI M (s + 22) := G9.2.2.2 _ (by omega) (by omega)
    have P9 : PLo M9 s := by
      intro j hj hp
      rw [G9.hm] at hp ⊢
      have a := hT j (by omega)
      have b := p9 j (by omega)
      have e32 : mI M8 (s + 32) = mI M (s + 32) := g8 _ (by omega) (by omega) (by omega)
      have e22 : mI M8 (s + 22) = mI M (s + 22) := g8 _ (by omega) (by omega) (by omega)
      rw [e32, e22] at b
      rw [hw9.may]
      unfold mayP pl
      rw [e32, e22]
      by_cases z : mI M8 s 17 = mI M (s + 22) j
      · rw [if_pos z] at b
        exact ⟨by omega, by have := a.2 hp; omega, Or.inr (by omega)⟩
      · rw [if_neg z] at b
        exact ⟨by omega, by omega, Or.inl z⟩
    have GW9 := G9.gw hG
    have GB9 := G9.gb hC
    have L9 := hw9.lq hL8
    have W9 : WH M9 s M9 := ⟨o9, V9, FI.refl, fun j _ => rfl, W8.far f9 (fun y q => by omega), C8.out f9 (fun y q => by omega), (R8 88 (by omega) hR).out f9 (fun y q => by omega), P9⟩
    have f09 : FI (kS s w) M M9 := f08.trans (f9.mono (fun y q => by omega))
    refine k_MS_work_26 o9 ⟨by omega, by omega⟩ ⟨by omega, by omega⟩ ?_
    rw [n9]
    refine ⟨V9.k0, fun _ => ?_, fun z => by omega⟩
    have hl : i32 (w : Int) := ⟨by omega, by omega⟩
    refine wk_answer hF GW9 GB9 n9 L9 hl W9 (fun M6 x A ρ h6 X6 _ r6 => ?_)
    obtain ⟨t', ht'⟩ := ms_ex (x := fun k => 1 - x k) hF k (fun j hj => smp_co (r6.1 j hj).1 (r6.1 j hj).2)
    refine s_wk72 hF GW9 GB9 n9 L9 hl (fun M7 x7 h7 X7 v7 v7' => ?_) t' x A ρ M6 h6 X6 r6 ht'
    have hs7 := h7.sw
    obtain ⟨o7, V7, f7, k7, W7, C7, R7, -⟩ := h7
    have R79 : Rm M9 s (68 + 5 * w) := (R8 _ (by omega) hRw).out f9 (fun y q => by omega)
    refine s_wk107 hw (by omega) (by rw [hs7.1.1]; exact n9) o7 V7 X7 (R79.out2 f7 (fun i y hi q => wk_f1 hw hi q)) (fun M' o' f' X' R' h' => ?_)
    have fk : ∀ y, (y = s + 30 ∨ eS s (68 + 5 * w) y) → kS s w y := fun y q => Or.inr q
    have hlow : ∀ y, y < s + 68 → y ≠ s + 30 → mI M' y = mI M7 y := fun y a b => f'.2.2.2.2.2.2 y (fun q => by rcases q with q | q; exact b q; have := q.1; omega)
    refine ⟨⟨o', f09.trans ((f7.mono (fun y q => Or.inl q)).trans (f'.mono fk)), fun j a b => ?_, W7.far f' (fun y q => by have := wk_f4 q; omega), C7.out f' (fun y q => wk_f2 hw q), R7.out2 f' (fun i y hi q => wk_f3 hw hi q), R', fun j hj => ?_, Or.inl ⟨rfl, ?_, x7, X', v7, fun j hj c => v7' j hj (by rw [i22]; exact c)⟩⟩, pY⟩
    · rw [hlow s (by omega) (by omega), k7 j b, fe9 s (by omega), s8 j a]
    · rw [h' j, if_neg hj, f7.2.2.2.2.2.2 (s + 30) (by omega), fe9 (s + 30) (by omega), h308, if_neg hj]
    · rw [h' w, if_pos rfl]
  | succ c ih =>
    intro k M9 hk o9 f9 p9
    have V9 := V8.fi f9
    have fe9 := f9.2.2.2.2.2.2
    have hw9 : sameW M8 M9 s := sameW.of f9 (by omega) (fun x _ _ => by omega) (by omega)
    have G9 : sameG M M9 s := G8.trans hw9.1
    have n9 : mI M9 s 1 = n := by rw [G9.1]; exact hn
    refine k_MS_work_26 o9 ⟨by omega, by omega⟩ ⟨by omega, by omega⟩ ?_
    rw [n9]
    refine ⟨V9.k0, fun z => by omega, fun _ => ?_⟩
    refine k_MS_firstThatMay o9 ⟨by omega, by omega⟩ ?_
    rw [V9.r4, V9.r14, V9.n22, V9.n32, V9.r18, fe9 s (by omega), fe9 (s + 22) (by omega), fe9 (s + 32) (by omega), Int.toNat_natCast]
    have e32 : mI M8 (s + 32) = mI M (s + 32) := g8 _ (by omega) (by omega) (by omega)
    have a := hT k (by omega)
    have i32v : i32 (mI M8 (s + 32) k) := by rw [e32]; exact (hO _ _).1
    refine ⟨V9.k0, V9.k22, by omega, fun _ => ⟨V9.k32, by omega⟩, fun v hv => ?_⟩
    have hv32 : i32 v := by
      split at hv
      · rw [hv]; exact i32v
      · rw [hv]; exact ⟨by omega, by omega⟩
    refine ⟨hv32, o9, V9.k35, by rw [V9.n35]; omega, fun M1 e1 => ?_⟩
    have f1 : FI (fun y => y = s + 35) M9 M1 := by rw [e1]; exact FI.ui rfl
    have o1 : mOk M1 := by rw [e1]; exact mOk_UI o9 hv32
    refine ih (k + 1) M1 (by omega) o1 (f9.trans f1) (fun j hj => ?_)
    rw [e1, mI_UI]
    by_cases z : j = k
    · rw [if_pos ⟨rfl, z⟩, z]
      exact hv
    · rw [if_neg (fun q => z q.2)]
      exact p9 j (by omega)
end WO
end
section
/-! The solver: ranks and choices. -/
def At (M : mM) (s n : Nat) (x : Nat → Rat) : Prop := Vk M s ∧ GW M s ∧ GB M s ∧ mI M s 1 = n ∧ Wk M s ∧ Xt M s 68 n x ∧ ∀ k, k < n → 0 ≤ x k ∧ x k ≤ 1
theorem At.out {S : Nat → Prop} {M M' : mM} {s n : Nat} {x : Nat → Rat} (h : At M s n x) (f : FI S M M') (hs : ∀ y, S y → (s < y ∧ y < s + 22) ∨ (s + 28 < y ∧ y < s + 68)) (hW : Wk M' s) : At M' s n x := by
  obtain ⟨V, g, c, e, -, X, b⟩ := h
  have G : sameG M M' s := sameG.of f (fun q => by have := hs s q; omega) (fun y a b q => by have := hs y q; omega)
  exact ⟨V.fi f, G.gw g, G.gb c, by rw [G.1]; exact e, hW, X.out f (fun y q => by have := hs y q; omega), b⟩
theorem At.wout {M M' : mM} {s n : Nat} {x : Nat → Rat} (h : At M s n x) (f : FI (wS s) M M') (hW : Wk M' s) : At M' s n x := h.out f (fun y q => by omega) hW
abbrev atQ (M : mM) (s : Nat) : Int → mM → Prop := fun r M' => mOk M' ∧ FI (wS s) M M' ∧ Wk M' s ∧ (r = 0 ∨ r = 1)
section RA
variable {G : mG} {d s n : Nat} {M : mM} {x : Nat → Rat}
theorem s_MS_attains {k i : Nat} (hO : mOk M) (hA : At M s n x) (hk : k < n) (hi : (i : Int) < mny M s k) : Ci G y_MS_attains (d + 6) [vr s, vi k, vi i] M (atQ M s) := by
  obtain ⟨hV, hG, hC, hn, hW, hX, h01⟩ := hA
  have h2 := hG.2.1
  have h3 := hG.2.2.1
  have hc := hG.cmd (i := k) (by omega)
  have hm0 : mny M s k ≤ 4200 := by unfold mny; omega
  refine k_MS_attains hO ⟨by omega, by omega⟩ ⟨by omega, by omega⟩ ?_
  rw [hV.r11]
  refine ⟨hV.k0, (s_MS_worthOf (d := d) (n := n) (Or.inr ⟨rfl, rfl, rfl⟩) hO hV hG hC hn (by omega) hi hW hX h01).mono (fun M2 h2' => ?_)⟩
  obtain ⟨o2, f2, W2, F2, C2, v2, s2⟩ := h2'
  have V2 := hV.fi f2
  have X2 := hX.out f2 (fun y q => by omega)
  have xk := X2 k hk
  have sz := smp_size F2 C2 (by rw [v2]; exact s2)
  have z3 := xk.1.2.1.1.2.2.2.2.2.2
  have z4 := xk.1.2.2.1.1.2.2.2.2.2.2
  rw [V2.r11, V2.r0, V2.r28, V2.n29, show (3 * (k : Int)).toNat = 3 * k + 0 by first | rfl | omega, V2.f29 k 0 (by omega) (by omega)]
  refine ⟨o2, V2.k0, V2.k29, by omega, W2.1.1.1, (s_MU_compare (d := d + 3) o2 W2.1 F2 xk.1 (by unfold suO; omega) (by unfold suO; omega) (by omega) (by omega)).mono (fun c M3 h3' => ?_)⟩
  obtain ⟨o3, f3, Z3, hcv⟩ := h3'
  have hc3 : c = -1 ∨ c = 0 ∨ c = 1 := by split at hcv <;> (try split at hcv) <;> omega
  exact ⟨⟨by omega, by omega⟩, o3, fun v hv => ⟨o3, f2.trans (f3.mono (fun y q => by omega)), W2.out f3 Z3 (fun y q => by omega), by split at hv <;> omega⟩⟩
theorem s_MS_leadsBelow {k i : Nat} {l : Int} (hl : i32 l) (hO : mOk M) (hV : Vk M s) (hG : GW M s) (hk : (k : Int) < mI M s 1) (hi : (i : Int) < mny M s k) : Ci G y_MS_leadsBelow d [vr s, vi k, vi i, vi l] M (fun r M' => M' = M ∧ (r = 0 ∨ r = 1)) := by
  have hc := hG.cmd hk
  unfold mny at hi
  have hb := hG.brn (c := (mI M (s + 23) k).toNat + i) (by omega)
  have h2 := hG.2.1
  have h3 := hG.2.2.1
  have h4 := hG.2.2.2.1
  have ht := hG.2.2.2.2.2.2.2.2.2.2
  refine k_MS_leadsBelow hO ⟨by omega, by omega⟩ ⟨by omega, by omega⟩ hl ?_
  rw [hV.r5, hV.r7, hV.n23, hV.n25, Int.toNat_natCast]
  have ec : (mI M (s + 23) k + (i : Int)).toNat = (mI M (s + 23) k).toNat + i := by omega
  have ec1 : (mI M (s + 23) k + (i : Int) + 1).toNat = (mI M (s + 23) k).toNat + i + 1 := by omega
  rw [ec]
  refine ⟨hV.k0, hV.k23, by omega, hV.k25, by omega, ?_⟩
  suffices H : ∀ (n : Nat) (f l6 : Int), mI M (s + 25) ((mI M (s + 23) k).toNat + i + 1) - l6 = n → mI M (s + 25) ((mI M (s + 23) k).toNat + i) ≤ l6 → (f = 0 ∨ f = 1) → h_MS_leadsBelow_22 G d s l (mI M (s + 23) k + i) f l6 M (fun r M' => M' = M ∧ (r = 0 ∨ r = 1)) from
    H _ 0 _ (Int.toNat_of_nonneg (by omega)).symm (by omega) (Or.inl rfl)
  intro n
  induction n with
  | zero =>
    intro f l6 hn hl6 hf
    refine k_MS_leadsBelow_22 hO hl ⟨by omega, by omega⟩ ⟨by omega, by omega⟩ ⟨by omega, by omega⟩ ?_
    rw [hV.r7, hV.n25, ec1]
    exact ⟨hV.k0, hV.k25, by omega, fun _ => ⟨hf, rfl, hf⟩, fun c => by omega⟩
  | succ n ih =>
    intro f l6 hn hl6 hf
    have htl := ht l6.toNat (by omega)
    refine k_MS_leadsBelow_22 hO hl ⟨by omega, by omega⟩ ⟨by omega, by omega⟩ ⟨by omega, by omega⟩ ?_
    rw [hV.r7, hV.r8, hV.r16, hV.n25, hV.n26, hV.n34, ec1]
    exact ⟨hV.k0, hV.k25, by omega, fun c => by omega, fun _ => ⟨hV.k26, by omega, hV.k34, by omega, fun v hv => ih v (l6 + 1) (by omega) (by omega) (by split at hv <;> omega)⟩⟩
theorem s_MS_isUnknown {k : Nat} (hO : mOk M) (hA : At M s n x) (hk : k < n) : Ci G y_MS_isUnknown (d + 2) [vr s, vi k] M (fun r M' => M' = M ∧ (r = 0 ∨ r = 1)) := by
  obtain ⟨hV, hG, hC, hn, hW, hX, h01⟩ := hA
  have h2 := hG.2.1
  have xk := hX k hk
  refine k_MS_isUnknown hO ⟨by omega, by omega⟩ ?_
  rw [hV.r4, hV.r11, hV.n22, hV.n29, show (3 * (k : Int)).toNat = 3 * k + 0 by first | rfl | omega, hV.f29 k 0 (by omega) (by omega)]
  refine ⟨hV.k0, hV.k22, by omega, fun _ => ⟨rfl, Or.inl rfl⟩, fun _ => ⟨hV.k29, by omega, xk.1.1.1, (s_MF_isZero hO xk.1).mono (fun y M2 h2' => ?_)⟩⟩
  obtain ⟨e2, hy⟩ := h2'
  subst e2
  exact ⟨⟨by split at hy <;> omega, by split at hy <;> omega⟩, hO, fun v hv => ⟨rfl, by split at hv <;> omega⟩⟩
theorem s_MS_getsRank {k : Nat} {l : Int} (hl : i32 l) (hO : mOk M) (hA : At M s n x) (hk : k < n) : Ci G y_MS_getsRank (d + 7) [vr s, vi k, vi l] M (atQ M s) := by
  have hA0 := hA
  obtain ⟨hV, hG, hC, hn, hW, hX, h01⟩ := hA
  have h2 := hG.2.1
  have h3 := hG.2.2.1
  have hc := hG.cmd (i := k) (by omega)
  have hm0 : 0 ≤ mny M s k ∧ mny M s k ≤ 4200 := by unfold mny; omega
  refine k_MS_getsRank hO ⟨by omega, by omega⟩ hl ?_
  suffices H : ∀ (c i : Nat) (e a : Int) (M2 : mM), i + c = (mny M s k).toNat → (e = 0 ∨ e = 1) → (a = 0 ∨ a = 1) → mOk M2 → FI (wS s) M M2 → Wk M2 s → h_MS_getsRank_8 G (d + 6) s k l e a i M2 (atQ M s) from
    H (mny M s k).toNat 0 0 1 M (by omega) (Or.inl rfl) (Or.inr rfl) hO FI.refl hW
  intro c
  induction c with
  | zero =>
    intro i e a M2 hi he ha o2 f2 W2
    have A2 := hA0.wout f2 W2
    obtain ⟨V2, G2, C2, n2, -, X2, -⟩ := A2
    have sg : sameG M M2 s := sameG.of f2 (by omega) (fun y _ _ => by omega)
    refine k_MS_getsRank_8 o2 ⟨by omega, by omega⟩ hl ⟨by omega, by omega⟩ ⟨by omega, by omega⟩ ⟨by omega, by omega⟩ ⟨V2.k0, (s_MS_many o2 V2 G2 (by omega)).mono (fun y M3 h3' => ?_)⟩
    obtain ⟨e3, hy⟩ := h3'
    subst e3
    rw [sg.hm] at hy
    rw [V2.r4, V2.n22]
    refine ⟨⟨by omega, by omega⟩, o2, fun _ => ⟨V2.k0, V2.k22, by omega, fun v hv => ?_⟩, fun q => by omega⟩
    have hv01 : v = 0 ∨ v = 1 := by split at hv <;> omega
    exact ⟨hv01, o2, f2, W2, hv01⟩
  | succ c ih =>
    intro i e a M2 hi he ha o2 f2 W2
    have A2 := hA0.wout f2 W2
    obtain ⟨V2, G2, C2, n2, -, X2, -⟩ := id A2
    have sg : sameG M M2 s := sameG.of f2 (by omega) (fun y _ _ => by omega)
    have him : (i : Int) < mny M2 s k := by rw [sg.hm]; omega
    refine k_MS_getsRank_8 o2 ⟨by omega, by omega⟩ hl ⟨by omega, by omega⟩ ⟨by omega, by omega⟩ ⟨by omega, by omega⟩ ⟨V2.k0, (s_MS_many o2 V2 G2 (by omega)).mono (fun y M3 h3' => ?_)⟩
    obtain ⟨e3, hy⟩ := h3'
    subst e3
    rw [sg.hm] at hy
    refine ⟨⟨by omega, by omega⟩, o2, fun q => by omega, fun _ => ⟨V2.k0, (s_MS_attains (d := d) o2 A2 hk him).mono (fun z M4 h4 => ?_)⟩⟩
    obtain ⟨o4, f4, W4, hz⟩ := h4
    have A4 := A2.wout f4 W4
    refine ⟨⟨by omega, by omega⟩, o4, fun q => ih (i + 1) e a M4 (by omega) he ha o4 (f2.trans f4) W4, fun q => ?_⟩
    have sg4 : sameG M3 M4 s := sameG.of f4 (by omega) (fun y _ _ => by omega)
    refine ⟨A4.1.k0, (s_MS_leadsBelow hl o4 A4.1 A4.2.1 (by rw [A4.2.2.2.1]; omega) (by rw [sg4.hm]; exact him)).mono (fun u M5 h5 => ?_)⟩
    obtain ⟨e5, hu⟩ := h5
    subst e5
    exact ⟨⟨by omega, by omega⟩, o4, fun v hv w hw => ih (i + 1) v w M5 (by omega) (by split at hv <;> omega) (by split at hw <;> omega) o4 (f2.trans f4) W4⟩
theorem s_MS_choose {k : Nat} (hO : mOk M) (hA : At M s n x) (hk : k < n) : Ci G y_MS_choose (d + 7) [vr s, vi k] M (fun r M' => mOk M' ∧ FI (wS s) M M' ∧ Wk M' s ∧ 0 ≤ r ∧ (0 < mny M s k → r < mny M s k)) := by
  have hA0 := hA
  obtain ⟨hV, hG, hC, hn, hW, hX, h01⟩ := hA
  have h2 := hG.2.1
  have h3 := hG.2.2.1
  have hc := hG.cmd (i := k) (by omega)
  have hm0 : 0 ≤ mny M s k ∧ mny M s k ≤ 4200 := by unfold mny; omega
  refine k_MS_choose hO ⟨by omega, by omega⟩ ?_
  suffices H : ∀ (c i : Nat) (M2 : mM), i + c = (mny M s k).toNat → mOk M2 → FI (wS s) M M2 → Wk M2 s → h_MS_choose_2 G (d + 6) s k i M2 (fun r M' => mOk M' ∧ FI (wS s) M M' ∧ Wk M' s ∧ 0 ≤ r ∧ (0 < mny M s k → r < mny M s k)) from
    H (mny M s k).toNat 0 M (by omega) hO FI.refl hW
  intro c
  induction c with
  | zero =>
    intro i M2 hi o2 f2 W2
    have A2 := hA0.wout f2 W2
    obtain ⟨V2, G2, C2, n2, -, X2, -⟩ := A2
    have sg : sameG M M2 s := sameG.of f2 (by omega) (fun y _ _ => by omega)
    refine k_MS_choose_2 o2 ⟨by omega, by omega⟩ ⟨by omega, by omega⟩ ⟨V2.k0, (s_MS_many o2 V2 G2 (by omega)).mono (fun y M3 h3' => ?_)⟩
    obtain ⟨e3, hy⟩ := h3'
    subst e3
    rw [sg.hm] at hy
    exact ⟨⟨by omega, by omega⟩, o2, fun _ => ⟨o2, f2, W2, by omega, fun q => q⟩, fun q => by omega⟩
  | succ c ih =>
    intro i M2 hi o2 f2 W2
    have A2 := hA0.wout f2 W2
    obtain ⟨V2, G2, C2, n2, -, X2, -⟩ := id A2
    have sg : sameG M M2 s := sameG.of f2 (by omega) (fun y _ _ => by omega)
    have him : (i : Int) < mny M2 s k := by rw [sg.hm]; omega
    have hfin : ∀ M4, mOk M4 → FI (wS s) M M4 → Wk M4 s → (mOk M4 ∧ FI (wS s) M M4 ∧ Wk M4 s ∧ 0 ≤ (i : Int) ∧ (0 < mny M s k → (i : Int) < mny M s k)) := fun M4 a b c => ⟨a, b, c, by omega, fun _ => by omega⟩
    refine k_MS_choose_2 o2 ⟨by omega, by omega⟩ ⟨by omega, by omega⟩ ⟨V2.k0, (s_MS_many o2 V2 G2 (by omega)).mono (fun y M3 h3' => ?_)⟩
    obtain ⟨e3, hy⟩ := h3'
    subst e3
    rw [sg.hm] at hy
    rw [V2.r4, V2.n22]
    refine ⟨⟨by omega, by omega⟩, o2, fun q => by omega, fun _ => ⟨V2.k0, V2.k22, by omega, fun _ => (s_MS_attains (d := d) o2 A2 hk him).mono (fun z M4 h4 => ?_), fun _ => (s_MS_isUnknown (d := d + 4) o2 A2 hk).mono (fun z M4 h4 => ?_)⟩⟩
    · obtain ⟨o4, f4, W4, hz⟩ := h4
      exact ⟨⟨by omega, by omega⟩, o4, fun _ => ih (i + 1) M4 (by omega) o4 (f2.trans f4) W4, fun _ => hfin M4 o4 (f2.trans f4) W4⟩
    · obtain ⟨e4, hz⟩ := h4
      subst e4
      refine ⟨⟨by omega, by omega⟩, o2, fun _ => ⟨fun _ => ih (i + 1) M4 (by omega) o2 f2 W2, fun q => absurd rfl q⟩, fun _ => ⟨V2.k0, (s_MS_attains (d := d) o2 A2 hk him).mono (fun u M5 h5 => ?_)⟩⟩
      obtain ⟨o5, f5, W5, hu⟩ := h5
      have A5 := A2.wout f5 W5
      have V5 := A5.1
      have sg5 : sameG M4 M5 s := sameG.of f5 (by omega) (fun y _ _ => by omega)
      rw [V5.r16, V5.n34]
      refine ⟨⟨by omega, by omega⟩, o5, fun _ => ⟨fun _ => ih (i + 1) M5 (by omega) o5 (f2.trans f5) W5, fun q => absurd rfl q⟩, fun _ => ⟨V5.k0, V5.k34, by omega, (s_MS_leadsBelow (o5 _ _).1 o5 V5 A5.2.1 (by rw [A5.2.2.2.1]; omega) (by rw [sg5.hm]; exact him)).mono (fun t M6 h6 => ?_)⟩⟩
      obtain ⟨e6, ht⟩ := h6
      subst e6
      exact ⟨⟨by omega, by omega⟩, o5, fun v hv => ⟨fun _ => ih (i + 1) M6 (by omega) o5 (f2.trans f5) W5, fun _ => hfin M6 o5 (f2.trans f5) W5⟩⟩
end RA
end
section
/-! The solver: rank, solve, judge. -/
def cng (f : Nat → Int) : Nat → Nat
  | 0 => 0
  | n + 1 => cng f n + (if f n < 0 then 1 else 0)
theorem cng_congr {f g : Nat → Int} : ∀ (n : Nat), (∀ j, j < n → f j = g j) → cng f n = cng g n
  | 0, _ => rfl
  | n + 1, h => by rw [cng, cng, cng_congr n (fun j hj => h j (by omega)), h n (by omega)]
theorem cng_set {f g : Nat → Int} {i : Nat} (h0 : f i < 0) (h1 : 0 ≤ g i) (h : ∀ j, j ≠ i → g j = f j) : ∀ (n : Nat), i < n → cng g n + 1 = cng f n
  | 0, hi => by omega
  | n + 1, hi => by
    rw [cng, cng]
    by_cases c : i = n
    · rw [← c, cng_congr i (fun j hj => h j (by omega)), if_neg (by omega), if_pos h0]
    · have := cng_set h0 h1 h n (by omega)
      rw [h n (by omega)]
      omega
theorem cng_le {f : Nat → Int} : ∀ (n : Nat), cng f n ≤ n
  | 0 => Nat.le_refl _
  | n + 1 => by
    have := cng_le (f := f) n
    rw [cng]
    split <;> omega
abbrev raS (s : Nat) : Nat → Prop := fun x => wS s x ∨ x = s + 33 ∨ x = s + 34
def CHo (M : mM) (s n : Nat) : Prop := ∀ k, k < n → 0 < mny M s k → 0 ≤ mI M (s + 33) k ∧ mI M (s + 33) k < mny M s k
def rkI (M : mM) (s n : Nat) (x : Nat → Rat) (M2 : mM) : Prop := mOk M2 ∧ FI (raS s) M M2 ∧ At M2 s n x
section RA
variable {G : mG} {d s n : Nat} {M : mM} {x : Nat → Rat}
theorem rkI.w {M2 M3 : mM} (h : rkI M s n x M2) (o : mOk M3) (f : FI (wS s) M2 M3) (hW : Wk M3 s) : rkI M s n x M3 :=
  ⟨o, h.2.1.trans (f.mono (fun y q => Or.inl q)), h.2.2.wout f hW⟩
theorem rkI.p {M2 M3 : mM} {a : Nat} (h : rkI M s n x M2) (o : mOk M3) (f : FI (fun y => y = a) M2 M3) (ha : a = s + 33 ∨ a = s + 34) : rkI M s n x M3 :=
  ⟨o, h.2.1.trans (f.mono (fun y q => by subst q; rcases ha with z | z <;> subst z <;> omega)), h.2.2.out f (fun y q => by omega) (h.2.2.2.2.2.2.1.far f (fun y q => by omega))⟩
theorem s_rk106 : ∀ (c k : Nat) (M2 : mM), k + c = n → rkI M s n x M2 → (∀ j, j < k → 0 < mny M s j → 0 ≤ mI M2 (s + 33) j ∧ mI M2 (s + 33) j < mny M s j) → h_MS_rank_106 G (d + 7) s k M2 (fun M' => rkI M s n x M' ∧ CHo M' s n) := by
  intro c
  induction c with
  | zero =>
    intro k M2 hk h hc
    have ek : k = n := by omega
    subst ek
    obtain ⟨o2, f2, A2⟩ := id h
    have sg : sameG M M2 s := sameG.of f2 (by omega) (fun y _ _ => by omega)
    have h5 := A2.2.1.2.1
    have hn2 := A2.2.2.2.1
    refine k_MS_rank_106 o2 ⟨by omega, by omega⟩ ?_
    rw [hn2]
    exact ⟨A2.1.k0, fun _ => ⟨h, fun j hj hp => by rw [sg.hm] at hp ⊢; exact hc j hj hp⟩, fun q => by omega⟩
  | succ c ih =>
    intro k M2 hk h hc
    obtain ⟨o2, f2, A2⟩ := id h
    have sg : sameG M M2 s := sameG.of f2 (by omega) (fun y _ _ => by omega)
    have V2 := A2.1
    have h5 := A2.2.1.2.1
    have hn2 := A2.2.2.2.1
    have h3 := A2.2.1.2.2.1
    have hcm := A2.2.1.cmd (i := k) (by omega)
    have hm0 : 0 ≤ mny M2 s k ∧ mny M2 s k ≤ 4200 := by unfold mny; omega
    refine k_MS_rank_106 o2 ⟨by omega, by omega⟩ ?_
    rw [hn2, V2.r15, Int.toNat_natCast]
    refine ⟨V2.k0, fun q => by omega, fun _ => (s_MS_many o2 V2 A2.2.1 (by omega)).mono (fun y M3 h3' => ?_)⟩
    obtain ⟨e3, hy⟩ := h3'
    subst e3
    rw [V2.n33]
    refine ⟨⟨by omega, by omega⟩, o2, fun y0 => ⟨V2.k33, by omega, fun M4 e4 => ?_⟩, fun y0 => ⟨V2.k0, (s_MS_choose (d := d) o2 A2 (by omega)).mono (fun z M4 h4 => ?_)⟩⟩
    · have f4 : FI (fun y => y = s + 33) M3 M4 := by rw [e4]; exact FI.ui rfl
      have o4 : mOk M4 := by rw [e4]; exact mOk_UI o2 ⟨by omega, by omega⟩
      refine ih (k + 1) M4 (by omega) (h.p o4 f4 (Or.inl rfl)) (fun j hj hp => ?_)
      rw [e4, mI_UI]
      by_cases z : j = k
      · subst z
        rw [← sg.hm] at hp
        omega
      · rw [if_neg (fun w => z w.2)]
        exact hc j (by omega) hp
    · obtain ⟨o4, f4, W4, z0, z1⟩ := h4
      have V4 := V2.fi f4
      have h4 := h.w o4 f4 W4
      have z1' := z1 (by omega)
      refine ⟨⟨by omega, by omega⟩, o4, V4.k33, by rw [V4.n33]; omega, fun M5 e5 => ?_⟩
      have f5 : FI (fun y => y = s + 33) M4 M5 := by rw [e5]; exact FI.ui rfl
      have o5 : mOk M5 := by rw [e5]; exact mOk_UI o4 ⟨by omega, by omega⟩
      refine ih (k + 1) M5 (by omega) (h4.p o5 f5 (Or.inl rfl)) (fun j hj hp => ?_)
      rw [e5, mI_UI]
      by_cases z : j = k
      · subst z
        rw [if_pos ⟨rfl, rfl⟩, ← sg.hm]
        omega
      · rw [if_neg (fun w => z w.2), f4.2.2.2.2.2.2 (s + 33) (by omega)]
        exact hc j (by omega) hp
theorem s_rk41 : ∀ (Z : Nat) (l : Int) (M2 : mM), rkI M s n x M2 → cng (mI M2 (s + 34)) n ≤ Z → 1 ≤ l → l + Z ≤ 600 → h_MS_rank_41 G (d + 7) s 1 l M2 (fun M' => rkI M s n x M' ∧ CHo M' s n) := by
  intro Z
  induction Z with
  | zero =>
    intro l M2 h hz l1 l2
    have hnn : ∀ j, j < n → 0 ≤ mI M2 (s + 34) j := by
      have aux : ∀ (n : Nat), cng (mI M2 (s + 34)) n = 0 → ∀ j, j < n → 0 ≤ mI M2 (s + 34) j := by
        intro n
        induction n with
        | zero => intro _ j hj; omega
        | succ n ih =>
          intro hc j hj
          rw [cng] at hc
          by_cases q : j = n
          · subst q
            refine Classical.byContradiction (fun w => ?_)
            rw [if_pos (by omega)] at hc
            omega
          · exact ih (by omega) j (by omega)
      exact aux n (by omega)
    obtain ⟨o2, f2, A2⟩ := id h
    have V2 := A2.1
    have h5 := A2.2.1.2.1
    have hn2 := A2.2.2.2.1
    refine k_MS_rank_41 o2 ⟨by omega, by omega⟩ ⟨by omega, by omega⟩ ⟨fun q => by omega, fun _ => ?_⟩
    suffices H : ∀ (c k : Nat), k + c = n → h_MS_rank_49 G (d + 7) s 0 l k M2 (fun M' => rkI M s n x M' ∧ CHo M' s n) from H n 0 (by omega)
    intro c
    induction c with
    | zero =>
      intro k hk
      refine k_MS_rank_49 o2 ⟨by omega, by omega⟩ ⟨by omega, by omega⟩ ⟨by omega, by omega⟩ ?_
      rw [hn2]
      exact ⟨V2.k0, fun _ => k_MS_rank_41 o2 ⟨by omega, by omega⟩ ⟨by omega, by omega⟩ ⟨fun _ => s_rk106 n 0 M2 (by omega) h (fun j hj => by omega), fun q => absurd rfl q⟩, fun q => by omega⟩
    | succ c ih =>
      intro k hk
      refine k_MS_rank_49 o2 ⟨by omega, by omega⟩ ⟨by omega, by omega⟩ ⟨by omega, by omega⟩ ?_
      rw [hn2, V2.r16, V2.n34, Int.toNat_natCast]
      exact ⟨V2.k0, fun q => by omega, fun _ => ⟨V2.k34, by omega, fun _ => ih (k + 1) (by omega), fun q => absurd (hnn k (by omega)) q⟩⟩
  | succ Z ihZ =>
    intro l M2 h hz l1 l2
    refine k_MS_rank_41 h.1 ⟨by omega, by omega⟩ ⟨by omega, by omega⟩ ⟨fun q => by omega, fun _ => ?_⟩
    suffices H : ∀ (c k : Nat) (f : Int) (M3 : mM), k + c = n → rkI M s n x M3 → ((f = 0 ∧ cng (mI M3 (s + 34)) n ≤ Z + 1) ∨ (f = 1 ∧ cng (mI M3 (s + 34)) n ≤ Z)) → h_MS_rank_49 G (d + 7) s f l k M3 (fun M' => rkI M s n x M' ∧ CHo M' s n) from H n 0 0 M2 (by omega) h (Or.inl ⟨rfl, hz⟩)
    clear h hz M2
    intro c
    induction c with
    | zero =>
      intro k f M3 hk h hf
      have A3 := h.2.2
      have h5 := A3.2.1.2.1
      have hn2 := A3.2.2.2.1
      refine k_MS_rank_49 h.1 ⟨by omega, by omega⟩ ⟨by omega, by omega⟩ ⟨by omega, by omega⟩ ?_
      rw [hn2]
      refine ⟨A3.1.k0, fun _ => ?_, fun q => by omega⟩
      rcases hf with ⟨q1, q2⟩ | ⟨q1, q2⟩
      · subst q1
        exact k_MS_rank_41 h.1 ⟨by omega, by omega⟩ ⟨by omega, by omega⟩ ⟨fun _ => s_rk106 n 0 M3 (by omega) h (fun j hj => by omega), fun q => absurd rfl q⟩
      · subst q1
        exact ihZ (l + 1) M3 h q2 (by omega) (by omega)
    | succ c ih =>
      intro k f M3 hk h hf
      have hf01 : f = 0 ∨ f = 1 := by omega
      obtain ⟨o3, f3, A3⟩ := id h
      have V3 := A3.1
      have h5 := A3.2.1.2.1
      have hn3 := A3.2.2.2.1
      refine k_MS_rank_49 o3 ⟨by omega, by omega⟩ ⟨by omega, by omega⟩ ⟨by omega, by omega⟩ ?_
      rw [hn3, V3.r16, V3.n34, Int.toNat_natCast]
      refine ⟨V3.k0, fun q => by omega, fun _ => ⟨V3.k34, by omega, fun _ => ih (k + 1) f M3 (by omega) h hf, fun q => (s_MS_isUnknown (d := d + 5) o3 A3 (by omega)).mono (fun y M4 h4 => ?_)⟩⟩
      obtain ⟨e4, hy⟩ := h4
      subst e4
      refine ⟨⟨by omega, by omega⟩, o3, fun _ => ih (k + 1) f M4 (by omega) h hf, fun _ => ⟨V3.k0, (s_MS_getsRank (d := d) (l := l) ⟨by omega, by omega⟩ o3 A3 (by omega)).mono (fun z M5 h5' => ?_)⟩⟩
      obtain ⟨o5, f5, W5, hz⟩ := h5'
      have h5'' := h.w o5 f5 W5
      have V5 := V3.fi f5
      have e34 : mI M5 (s + 34) = mI M4 (s + 34) := f5.2.2.2.2.2.2 _ (by omega)
      rw [V5.r16, V5.n34]
      refine ⟨⟨by omega, by omega⟩, o5, fun _ => ⟨V5.k0, V5.k34, by omega⟩, fun v hv M6 e6 => ?_⟩
      by_cases w : z = 0
      · rw [if_pos w] at hv e6
        subst e6 hv
        exact ⟨o5, ih (k + 1) v M6 (by omega) h5'' (by rw [e34]; exact hf)⟩
      · rw [if_neg w] at hv e6
        subst hv
        have f6 : FI (fun y => y = s + 34) M5 M6 := by rw [e6]; exact FI.ui rfl
        have o6 : mOk M6 := by rw [e6]; exact mOk_UI o5 ⟨by omega, by omega⟩
        refine ⟨o6, ih (k + 1) 1 M6 (by omega) (h5''.p o6 f6 (Or.inr rfl)) (Or.inr ⟨rfl, ?_⟩)⟩
        have a := cng_set (f := mI M4 (s + 34)) (g := mI M6 (s + 34)) (i := k) (by omega) (by rw [e6, mI_UI, if_pos ⟨rfl, rfl⟩]; omega) (fun j hj => by rw [e6, mI_UI, if_neg (fun w => hj w.2), e34]) n (by omega)
        omega
theorem s_MS_rank (hO : mOk M) (hA : At M s n x) : Cv G y_MS_rank (d + 8) [vr s] M (fun M' => rkI M s n x M' ∧ CHo M' s n) := by
  have h5 := hA.2.1.2.1
  have hn := hA.2.2.2.1
  refine k_MS_rank hO ?_
  suffices H : ∀ (c k : Nat) (M2 : mM), k + c = n → rkI M s n x M2 → h_MS_rank_2 G (d + 7) s k M2 (fun M' => rkI M s n x M' ∧ CHo M' s n) from H n 0 M (by omega) ⟨hO, FI.refl, hA⟩
  intro c
  induction c with
  | zero =>
    intro k M2 hk h
    have A2 := h.2.2
    have hn2 := A2.2.2.2.1
    refine k_MS_rank_2 h.1 ⟨by omega, by omega⟩ ?_
    rw [hn2]
    have := cng_le (f := mI M2 (s + 34)) n
    exact ⟨A2.1.k0, fun _ => s_rk41 n 1 M2 h this (by omega) (by omega), fun q => by omega⟩
  | succ c ih =>
    intro k M2 hk h
    have A2 := h.2.2
    have V2 := A2.1
    have hn2 := A2.2.2.2.1
    refine k_MS_rank_2 h.1 ⟨by omega, by omega⟩ ?_
    rw [hn2, V2.r4, V2.r16, V2.n22, V2.n34, Int.toNat_natCast]
    refine ⟨V2.k0, fun q => by omega, fun _ => ⟨V2.k22, by omega, fun v hv => ⟨V2.k34, by omega, fun M3 e3 => ?_⟩⟩⟩
    have f3 : FI (fun y => y = s + 34) M2 M3 := by rw [e3]; exact FI.ui rfl
    have o3 : mOk M3 := by rw [e3]; exact mOk_UI h.1 ⟨by split at hv <;> omega, by split at hv <;> omega⟩
    exact ih (k + 1) M3 (by omega) (h.p o3 f3 (Or.inr rfl))
end RA
end
section
/-! The solver at rest; solve and judge. -/
abbrev eL (e : Nat) : Prop := e = 68 ∨ e = 73 ∨ e = 78 ∨ e = 83 ∨ e = 88
/-- the values told are there -/
def Hs (M : mM) (s n w : Nat) : Prop := (mI M (s + 30) w = 0 ∨ mI M (s + 30) w = 1) ∧ (mI M (s + 30) w = 1 → ∃ x : Nat → Rat, Xt M s (68 + 5 * w) n x ∧ ∀ k, k < n → Smp 21 (x k) ∧ 0 ≤ x k)
def Sv (M : mM) (s n : Nat) : Prop := Vk M s ∧ GW M s ∧ GB M s ∧ mI M s 1 = n ∧ TW M s ∧ Wk M s ∧ Ct M s ∧ (∀ e, eL e → Rm M s e) ∧ (∀ w, w < 3 → Hs M s n w) ∧ (mI M (s + 30) 0 = 1 → CHo M s n)
abbrev vF (s : Nat) : Nat → Prop := fun y => s ≤ y ∧ y ≤ s + 21067
/-- all its cells but the game's tables -/
abbrev vH (s : Nat) : Nat → Prop := fun y => s ≤ y ∧ y ≤ s + 21067 ∧ (y < s + 22 ∨ s + 28 < y)
/-- and whether values are there -/
abbrev vK (s : Nat) : Nat → Prop := fun y => s ≤ y ∧ y ≤ s + 21067 ∧ (y < s + 22 ∨ s + 28 < y) ∧ y ≠ s + 30
theorem fi_vk {M M' : mM} {s : Nat} (f : FI (vK s) M M') : FI (vH s) M M' ∧ mI M' (s + 30) 0 = mI M (s + 30) 0 := ⟨f.mono (fun y q => ⟨q.1, q.2.1, q.2.2.1⟩), by rw [f.2.2.2.2.2.2 (s + 30) (fun q => q.2.2.2 rfl)]⟩
theorem kS_far {s w e i y : Nat} (hw : w < 3) (he : eL e) (hne : e ≠ 68 + 5 * w) (h8 : e ≠ 88) (hi : i < 512) (q : kS s w y) : y < s + e + 25 * i ∨ s + e + 25 * i + 4 < y := by
  have hw' : w = 0 ∨ w = 1 ∨ w = 2 := by omega
  rcases hw' with z | z | z <;> subst z <;> rcases he with z | z | z | z | z <;> subst z <;> first | omega | exact absurd rfl hne | exact absurd rfl h8
theorem kS_vH {s w y : Nat} (hw : w < 3) (q : kS s w y) : vH s y := by
  have hw' : w = 0 ∨ w = 1 ∨ w = 2 := by omega
  rcases hw' with z | z | z <;> subst z <;> omega
theorem TW.out {M M' : mM} {s : Nat} (h : TW M s) (g : sameG M M' s) (e : mI M' (s + 32) = mI M (s + 32)) : TW M' s := by
  unfold TW at h ⊢
  rw [g.1, g.hm, e]
  exact h
theorem CHo.out {M M' : mM} {s n : Nat} (h : CHo M s n) (g : sameG M M' s) (e : mI M' (s + 33) = mI M (s + 33)) : CHo M' s n := by
  unfold CHo at h ⊢
  rw [g.hm, e]
  exact h
section SV
variable {G : mG} {d s n : Nat} {M : mM} {F : Int}
theorem Sv.n5 (h : Sv M s n) : n ≤ 512 := by
  have := h.2.1.2.1
  have := h.2.2.2.1
  omega
/-- after work, all but the choices -/
theorem wk_sv {M' : mM} {w : Nat} {r : Int} (hw : w < 3) (h : Sv M s n) (k : wkQ M s n w r M') : Vk M' s ∧ GW M' s ∧ GB M' s ∧ mI M' s 1 = n ∧ TW M' s ∧ Wk M' s ∧ Ct M' s ∧ (∀ e, eL e → Rm M' s e) ∧ (∀ w, w < 3 → Hs M' s n w) ∧ (CHo M s n → CHo M' s n) := by
  have hn5 := h.n5
  obtain ⟨V, g, c, e, t, W, T, R, H, -⟩ := h
  obtain ⟨o', f', k1, W', T', R8, Rw, k30, kr⟩ := k
  have fe := f'.2.2.2.2.2.2
  have sg : sameG M M' s := ⟨k1 1 (by omega) (by omega), k1 2 (by omega) (by omega), k1 3 (by omega) (by omega), fun y a b => fe y (fun q => by rcases q with q | q | q; omega; omega; have := q.1; omega)⟩
  have low : ∀ y, s + 31 ≤ y → y ≤ s + 34 → mI M' y = mI M y := fun y a b => fe y (fun q => by rcases q with q | q | q; omega; omega; have := q.1; omega)
  refine ⟨V.fi f', sg.gw g, sg.gb c, by rw [sg.1]; exact e, t.out sg (low _ (by omega) (by omega)), W', T', fun e he => ?_, fun w' hw' => ?_, fun hc => hc.out sg (low _ (by omega) (by omega))⟩
  · by_cases z : e = 88
    · rw [z]; exact R8
    · by_cases z2 : e = 68 + 5 * w
      · rw [z2]; exact Rw
      · exact (R e he).out2 f' (fun i y hi q => kS_far hw he z2 z hi q)
  · by_cases z : w' = w
    · subst z
      rcases kr with ⟨r0, r1, x, X, v, -⟩ | ⟨r0, r1⟩
      · exact ⟨Or.inr r1, fun _ => ⟨x, X, v⟩⟩
      · exact ⟨Or.inl r1, fun q => by omega⟩
    · obtain ⟨a1, a2⟩ := H w' hw'
      unfold Hs
      rw [k30 w' z]
      refine ⟨a1, fun q => ?_⟩
      obtain ⟨x, X, v⟩ := a2 q
      exact ⟨x, X.out2 f' (fun i y hi q => kS_far hw (by omega) (by omega) (by omega) (by omega) q), v⟩
theorem s_MS_judge {q : Int} (hF : Fall F) (hq : q = 1 ∨ q = 2) (hO : mOk M) (h : Sv M s n) : Ci G y_MS_judge (d + 10) [vr s, vi q] M (fun r M' => (mOk M' ∧ FI (vH s) M M' ∧ Sv M' s n ∧ (r = 0 ∨ r = 5 ∨ r = 6)) ∧ mI M' (s + 30) 0 = mI M (s + 30) 0) := by
  obtain ⟨V, g, c, e, t, W, T, R, H, hc⟩ := id h
  refine k_MS_judge hO ⟨by omega, by omega⟩ ⟨V.k0, (s_MS_work (d := d) (w := 2) hF (by omega) (Or.inr rfl) hO V g c e t W T (R 88 (by omega)) (R 78 (by omega)) (P := fun _ => True) (fun _ _ _ _ _ _ _ _ _ => trivial)).mono (fun r M' k => ?_)⟩
  replace k := k.1
  have a := wk_sv (by omega) h k
  have hr : r = 0 ∨ r = 5 ∨ r = 6 := by
    rcases k.2.2.2.2.2.2.2.2 with z | z
    · exact Or.inl z.1
    · exact Or.inr z.1
  have e30 := k.2.2.2.2.2.2.2.1 0 (by omega)
  obtain ⟨a1, a2, a3, a4, a5, a6, a7, a8, a9, a10⟩ := a
  exact ⟨⟨by omega, by omega⟩, k.1, ⟨k.1, k.2.1.mono (fun y q => kS_vH (by omega) q), ⟨a1, a2, a3, a4, a5, a6, a7, a8, a9, fun q => a10 (hc (by rw [← e30]; exact q))⟩, hr⟩, e30⟩
theorem s_MS_solve (hF : Fall F) (hO : mOk M) (h : Sv M s n) : Ci G y_MS_solve (d + 10) [vr s] M (fun r M' => (mOk M' ∧ FI (vH s) M M' ∧ Sv M' s n ∧ (r = 0 ∨ r = 5 ∨ r = 6)) ∧ (∀ T : xt9, SvT M s T → kdT T → svA9 T r) ∧ mI M' (s + 30) 0 = if r = 0 then 1 else 0) := by
  have hn5 := h.n5
  obtain ⟨V, g, c, e, t, W, T, R, H, hc⟩ := id h
  refine k_MS_solve hO ⟨V.k0, (s_MS_work (d := d) (w := 0) hF (by omega) (Or.inl rfl) hO V g c e t W T (R 88 (by omega)) (R 68 (by omega)) (P := fun r => ∀ T : xt9, SvT M s T → kdT T → svA9 T r) (fun M3 M8 y h1 h2 h3 h4 h5 h6 T hT hk => ref_sv (M := M3) (hT.sv (h3 1 (by decide)) (fun i a b => h4 _ (by omega) (by omega))) h1 h2 (fun k x hx e => ((hk x (List.mem_of_getElem? hx)).resolve_left (by rw [e]; decide)).resolve_left (by rw [e]; decide)) h5 h6)).mono (fun r M' k => ?_)⟩
  have pT := k.2
  replace k := k.1
  have a := wk_sv (by omega) h k
  obtain ⟨a1, a2, a3, a4, a5, a6, a7, a8, a9, a10⟩ := a
  obtain ⟨k1, k2, -, -, -, -, -, -, kr⟩ := k
  have kv : FI (vH s) M M' := k2.mono (fun y q => kS_vH (by omega) q)
  rcases kr with ⟨r0, r1, x, X, v, -⟩ | ⟨r0, r1⟩
  · subst r0
    refine ⟨⟨by omega, by omega⟩, k1, fun _ => ⟨a1.k0, (s_MS_rank (d := d + 1) k1 (x := x) ⟨a1, a2, a3, a4, a6, X, fun k hk => ⟨(v k hk).2, (smp_b (v k hk).1).1⟩⟩).mono (fun M2 h2 => ?_)⟩, fun q => absurd rfl q⟩
    obtain ⟨⟨o2, f2, A2⟩, c2⟩ := h2
    obtain ⟨b1, b2, b3, b4, b5, b6, b7⟩ := A2
    have sg : sameG M' M2 s := sameG.of f2 (by omega) (fun y _ _ => by omega)
    have fe := f2.2.2.2.2.2.2
    refine ⟨o2, ⟨o2, kv.trans (f2.mono (fun y q => by omega)), ⟨b1, b2, b3, b4, a5.out sg (fe _ (by omega)), b5, a7.out f2 (fun y q => by omega), fun e he => (a8 e he).out f2 (fun y q => by omega), fun w hw => ?_, fun _ => c2⟩, Or.inl rfl⟩, pT, by rw [if_pos rfl, fe (s + 30) (by omega)]; exact r1⟩
    obtain ⟨z1, z2⟩ := a9 w hw
    unfold Hs
    rw [fe (s + 30) (by omega)]
    refine ⟨z1, fun q => ?_⟩
    obtain ⟨x', X', v'⟩ := z2 q
    exact ⟨x', X'.out f2 (fun y q => by omega), v'⟩
  · exact ⟨⟨by omega, by omega⟩, k1, fun q => by omega, fun _ => ⟨⟨k1, kv, ⟨a1, a2, a3, a4, a5, a6, a7, a8, a9, fun q => by omega⟩, Or.inr r0⟩, pT, by rw [if_neg (by omega)]; exact r1⟩⟩
end SV
end
section
/-! The reference's solver: WITHIN by its tables. -/
section MVX
variable {M M' : mM} {s n k f r i : Nat} {x x' : Nat → Rat}
/-- a state's best number after i commands -/
noncomputable def bq9 (M : mM) (s k : Nat) (x : Nat → Rat) : Nat → Rat
  | 0 => if mI M (s + 22) k = 3 then 1 else 0
  | i + 1 => bst9 (mI M (s + 22) k = 1) (fun j => cw M s (cx M s k j) x) i
noncomputable def wiR (M : mM) (s : Nat) : Nat → Nat → Rat
  | 0 => fun k => if mI M (s + 22) k = 3 then 1 else 0
  | m + 1 => fun k => bq9 M s k (wiR M s m) (mny M s k).toNat
/-- one more command -/
theorem bq_s (hi : i ≠ 0) : bq9 M s k x (i + 1) = @ite Rat ((mI M (s + 22) k = 1 ∧ bq9 M s k x i < cw M s (cx M s k i) x) ∨ (¬ mI M (s + 22) k = 1 ∧ cw M s (cx M s k i) x < bq9 M s k x i)) (Classical.propDecidable _) (cw M s (cx M s k i) x) (bq9 M s k x i) := by
  cases i with
  | zero => exact absurd rfl hi
  | succ j => rfl
theorem bq_cg (sg : sameG M M' s) (hG : GW M s) (hn : mI M s 1 = n) (hk : k < n) (h : ∀ t, t < n → x t = x' t) : ∀ i, i ≤ (mny M s k).toNat → bq9 M' s k x i = bq9 M s k x' i
  | 0, _ => by
    show (if mI M' (s + 22) k = 3 then (1 : Rat) else 0) = (if mI M (s + 22) k = 3 then 1 else 0)
    rw [sg.2.2.2 (s + 22) (by omega) (by omega)]
  | i + 1, hi => by
    show bst9 (mI M' (s + 22) k = 1) (fun j => cw M' s (cx M' s k j) x) i = bst9 (mI M (s + 22) k = 1) (fun j => cw M s (cx M s k j) x') i
    rw [sg.2.2.2 (s + 22) (by omega) (by omega), sg.hw, sg.hx]
    refine bst_cg i (fun j hj => ?_)
    have lt := cx_lt hG (k := k) (i := j) (by omega) (by omega)
    exact cw_congr (fun b hb => h _ (by have := tg_lt hG lt hb; omega))
theorem ftv (F : Fq M f r) (p : 0 ≤ fv M f) (h1 : wv M (f + 1) < 2 ^ 480) (h2 : wv M (f + 3) < 2 ^ 480) : ft9 (fv M f) := by
  have e := fv_sd F
  rw [fv_wv F p] at e
  exact ⟨wv M (f + 1), wv M (f + 3), ⟨F.2.1.nonneg, F.2.2.2.2⟩, ⟨h1, h2⟩, e⟩
theorem nftv (F : Fq M f r) (C : Fc M f) (p : 0 ≤ fv M f) (h : 2 ^ 480 ≤ wv M (f + 1) ∨ 2 ^ 480 ≤ wv M (f + 3)) : ¬ ft9 (fv M f) := by
  have e := fv_sd F
  have a0 := F.2.1.nonneg
  have b0 : 0 < wv M (f + 3) := F.2.2.2.2
  rw [fv_wv F p] at e
  refine nft_of e a0 b0 ?_ h
  have c := C.1
  have e3 : xn M (f + 1) = (wv M (f + 1)).natAbs := by
    unfold xn
    omega
  have e4 : xn M (f + 3) = (wv M (f + 3)).natAbs := by
    unfold xn
    omega
  rw [e3, e4] at c
  exact c
theorem rat3 {p q : Rat} : (p < q → ¬ q < p) ∧ (¬ p < q → ¬ p = q → q < p) := by
  constructor
  · intro h
    grind
  · intro h h'
    grind
/-- what comparing tells -/
theorem cmp_u {a b ra rb : Nat} {u : Int} (hA : Fq M a ra) (hB : Fq M b rb) (ha : 0 ≤ fv M a) (hb : 0 ≤ fv M b) (hu : u = if wv M (a + 1) * wv M (b + 3) < wv M (b + 1) * wv M (a + 3) then -1 else if wv M (a + 1) * wv M (b + 3) = wv M (b + 1) * wv M (a + 3) then 0 else 1) : (0 < u ↔ fv M b < fv M a) ∧ (u < 0 ↔ fv M a < fv M b) := by
  obtain ⟨c1, c2⟩ := fv_cmp hA hB ha hb
  by_cases y : fv M a < fv M b
  · rw [if_pos (c1.2 y)] at hu
    exact ⟨⟨fun w => by omega, fun w => absurd w (rat3.1 y)⟩, fun _ => y, fun _ => by omega⟩
  · rw [if_neg (fun w => y (c1.1 w))] at hu
    by_cases z : fv M a = fv M b
    · rw [if_pos (c2.2 z)] at hu
      exact ⟨⟨fun w => by omega, fun w => absurd w (by rw [z]; exact Rat.lt_irrefl)⟩, fun w => by omega, fun w => absurd w y⟩
    · rw [if_neg (fun w => z (c2.1 w))] at hu
      exact ⟨⟨fun _ => rat3.2 y z, fun _ => by omega⟩, fun w => by omega, fun w => absurd w y⟩
end MVX
section MVY
variable {M : mM} {s n : Nat} {T : xt9}
/-- 0 and 1 fit -/
theorem ft_01 {p : Prop} {dp : Decidable p} : ∀ (_ : p ∨ ¬ p), ft9 (if p then 1 else 0) := fun _ => by
  split
  · exact ⟨1, 1, ⟨by decide, by decide⟩, ⟨by decide, by decide⟩, by have z1 : ((1 : Int) : Rat) = 1 := rfl; rw [z1]; grind⟩
  · exact ⟨0, 1, ⟨by decide, by decide⟩, ⟨by decide, by decide⟩, by have z0 : ((0 : Int) : Rat) = 0 := rfl; rw [z0]; grind⟩
/-- WITHIN by the solver's tables is that of what was explored -/
theorem ref_wi (hS : SvT M s T) : ∀ (m k : Nat), k < T.length → wiR M s m k = wi9 T m k
  | 0, k, hk => by
    have hx := List.getElem?_eq_getElem (l := T) (i := k) hk
    obtain ⟨a1, -⟩ := hS.2 k _ hx
    show (if mI M (s + 22) k = 3 then (1 : Rat) else 0) = ((T[k]?).map (fun y => if y.1 = 3 then (1 : Rat) else 0)).getD 0
    rw [hx, a1]
    all_goals rfl
  | m + 1, k, hk => by
    have hx := List.getElem?_eq_getElem (l := T) (i := k) hk
    obtain ⟨a1, a2, a3⟩ := hS.2 k _ hx
    show bq9 M s k (wiR M s m) (mny M s k).toNat = ((T[k]?).map (fun y => stv9 (wi9 T m) y)).getD 0
    rw [hx, a2, Int.toNat_natCast]
    show bq9 M s k (wiR M s m) (T[k]).2.length = stv9 (wi9 T m) T[k]
    generalize T[k] = y at *
    unfold stv9
    generalize hl : y.2.length = l at *
    cases l with
    | zero =>
      show (if mI M (s + 22) k = 3 then (1 : Rat) else 0) = (if y.1 = 3 then (1 : Rat) else 0)
      rw [a1]
    | succ j =>
      show bst9 (mI M (s + 22) k = 1) (fun i => cw M s (cx M s k i) (wiR M s m)) j = bst9 (y.1 = 1) (fun i => wr9 (wi9 T m) (cq0 y i)) j
      rw [a1]
      refine bst_cg j (fun i hi => ?_)
      have hc := List.getElem?_eq_getElem (l := y.2) (i := i) (by omega)
      obtain ⟨-, -, b1, b2⟩ := a3 i _ hc
      rw [b2, cq0_of hc]
      exact wr_cg (fun b hb => ref_wi hS m b.1 (b1 b hb))
end MVY
end
section
/-! The solver: move and within. -/
theorem p480e : (2 : Int) ^ 480 = 16777216 ^ 20 := by decide
def Bt (M : mM) (s n : Nat) (x : Nat → Rat) : Prop := Vk M s ∧ GW M s ∧ GB M s ∧ mI M s 1 = n ∧ Wk M s ∧ Xt M s 88 n x ∧ ∀ k, k < n → Smp 21 (x k) ∧ 0 ≤ x k
abbrev bmS (s : Nat) : Nat → Prop := fun y => wS s y ∨ (s + 62 ≤ y ∧ y ≤ s + 66)
theorem Bt.out {M M' : mM} {s n : Nat} {x : Nat → Rat} (h : Bt M s n x) (f : FI (bmS s) M M') (hW : Wk M' s) : Bt M' s n x := by
  obtain ⟨V, g, c, e, -, X, b⟩ := h
  have G : sameG M M' s := sameG.of f (by omega) (fun y _ _ => by omega)
  exact ⟨V.fi f, G.gw g, G.gb c, by rw [G.1]; exact e, hW, X.out f (fun y q => by omega), b⟩
/-- the best so far -/
def bsI (M : mM) (s : Nat) (M2 : mM) : Prop := mOk M2 ∧ FI (bmS s) M M2 ∧ Wk M2 s ∧ Fq M2 (s + 62) 900 ∧ Fc M2 (s + 62) ∧ 0 ≤ fv M2 (s + 62) ∧ Smp 185 (fv M2 (s + 62))
abbrev nxS (s k : Nat) : Nat → Prop := fun y => bmS s y ∨ fS (s + 83 + 25 * k) y
/-- a fraction that may stay -/
def okF (M : mM) (f : Nat) : Prop := Fq M f 56 ∧ Fc M f ∧ Smp 21 (fv M f) ∧ 0 ≤ fv M f
def mvQ (M : mM) (s k : Nat) (x : Nat → Rat) (r : Int) (M' : mM) : Prop := mOk M' ∧ FI (nxS s k) M M' ∧ Wk M' s ∧ ((r = 0 ∧ FI (bmS s) M M' ∧ ¬ ft9 (bq9 M s k x (mny M s k).toNat)) ∨ (r = 1 ∧ okF M' (s + 83 + 25 * k) ∧ fv M' (s + 83 + 25 * k) = bq9 M s k x (mny M s k).toNat ∧ ft9 (bq9 M s k x (mny M s k).toNat)))
section MV
variable {G : mG} {d s n : Nat} {M : mM} {x : Nat → Rat}
theorem bs_fit {M2 : mM} {y z : Int} (h : bsI M s M2) (h1 : wv M2 (s + 62 + 1) < 2 ^ y.toNat) (h2 : wv M2 (s + 62 + 3) < 2 ^ z.toNat) (hy : y ≤ 480) (hz : z ≤ 480) : mI M2 (s + 62 + 1) 1 ≤ 56 ∧ mI M2 (s + 62 + 3) 1 ≤ 56 ∧ Smp 21 (fv M2 (s + 62)) := by
  obtain ⟨-, -, -, F, C, p, q⟩ := h
  have a1 : (2 : Int) ^ y.toNat ≤ 2 ^ 480 := two_pow_le (by omega)
  have a2 : (2 : Int) ^ z.toNat ≤ 2 ^ 480 := two_pow_le (by omega)
  rw [p480e] at a1 a2
  have b1 := F.2.1.size (k := 20) (Int.lt_of_lt_of_le h1 a1)
  have b2 := F.2.2.1.size (k := 20) (Int.lt_of_lt_of_le h2 a2)
  refine ⟨by omega, by omega, sd M2 (s + 62), sn M2 (s + 62), F.2.2.2.2, ?_, fv_sd F, (smp_b q).1, (smp_b q).2⟩
  exact Int.lt_of_lt_of_le (Int.lt_of_lt_of_le h2 a2) (pow_mono (by omega))
theorem s_MS_move {k : Nat} (hO : mOk M) (hB : Bt M s n x) (hk : k < n) (hR : Rm M s 83) : Ci G y_MS_move (d + 6) [vr s, vi k] M (mvQ M s k x) := by
  have hB0 := hB
  obtain ⟨hV, hG, hC, hn, hW, hX, h01⟩ := hB
  have h2 := hG.2.1
  have h3 := hG.2.2.1
  have hc := hG.cmd (i := k) (by omega)
  have hm0 : 0 ≤ mny M s k ∧ mny M s k ≤ 4200 := by unfold mny; omega
  have h01' : ∀ t, t < n → 0 ≤ x t ∧ x t ≤ 1 := fun t ht => ⟨(h01 t ht).2, (smp_b (h01 t ht).1).1⟩
  have hxs : ∀ t, t < n → Smp 21 (x t) := fun t ht => (h01 t ht).1
  refine k_MS_move hO ⟨by omega, by omega⟩ ?_
  rw [hV.r4, hV.n22, hV.r30]
  refine ⟨hV.k0, hV.k22, by omega, fun v hv => ⟨hW.2.2.2.2.2.1.1, (s_MF_set ⟨by split at hv <;> omega, by split at hv <;> omega⟩ (by split at hv <;> omega) ⟨by omega, by omega⟩ (by omega) hO hW.2.2.2.2.2 (by omega)).mono (fun M1 h1 => ?_)⟩⟩
  obtain ⟨o1, f1, F1, y1, y2, y3⟩ := h1
  have hv01 : v = 0 ∨ v = 1 := by split at hv <;> omega
  have C1 := fc_one F1 y2 (fun q => y3 (by omega))
  have e1 : fv M1 (s + 62) = 0 ∨ fv M1 (s + 62) = 1 := by
    rw [fv_set y1 y2]
    have z0 : ((0 : Int) : Rat) = 0 := rfl
    have z1 : ((1 : Int) : Rat) = 1 := rfl
    rcases hv01 with z | z
    · left; rw [z, z0]; grind
    · right; rw [z, z1]; grind
  have b0 : fv M1 (s + 62) = bq9 M s k x 0 := by
    have z0 : ((0 : Int) : Rat) = 0 := rfl
    have z1 : ((1 : Int) : Rat) = 1 := rfl
    show fv M1 (s + 62) = (if mI M (s + 22) k = 3 then (1 : Rat) else 0)
    rw [fv_set y1 y2, hv]
    split
    · rw [z1]; grind
    · rw [z0, z1]; grind
  refine ⟨o1, ?_⟩
  suffices H : ∀ (c i : Nat) (M2 : mM), i + c = (mny M s k).toNat → bsI M s M2 → fv M2 (s + 62) = bq9 M s k x i → h_MS_move_25 G (d + 5) s k i M2 (mvQ M s k x) by
    refine H (mny M s k).toNat 0 M1 (by omega) ⟨o1, f1.mono (fun y q => by have : s + 62 ≤ y ∧ y ≤ s + 62 + 4 := q; omega), hW.put f1 F1.ft (by omega), F1, C1, ?_, ?_⟩ b0
    · rcases e1 with z | z <;> rw [z] <;> decide
    · rcases e1 with z | z <;> rw [z]
      · exact ⟨1, 0, by omega, by decide, by grind, by grind, by grind⟩
      · exact ⟨1, 1, by omega, by decide, by grind, by grind, by grind⟩
  clear b0 e1 C1 y3 y2 y1 F1 f1 o1 M1
  intro c
  induction c with
  | zero =>
    intro i M2 hi h hb
    obtain ⟨o2, f2, W2, F2, C2, p2, q2⟩ := id h
    obtain ⟨V2, G2, -, n2, -⟩ := hB0.out f2 W2
    have sg : sameG M M2 s := sameG.of f2 (by omega) (fun y _ _ => by omega)
    have ei : i = (mny M s k).toNat := by omega
    rw [ei] at hb
    have h141 : ¬ ft9 (fv M2 (s + 62)) → h_MS_move_141 G (d + 5) s k 0 M2 (mvQ M s k x) := fun nf =>
      k_MS_move_141 o2 ⟨by omega, by omega⟩ ⟨by omega, by omega⟩ ⟨fun _ => ⟨Or.inl rfl, o2, f2.mono (fun y q => Or.inl q), W2, Or.inl ⟨rfl, f2, by rw [← hb]; exact nf⟩⟩, fun q => absurd rfl q⟩
    refine k_MS_move_25 o2 ⟨by omega, by omega⟩ ⟨by omega, by omega⟩ ⟨V2.k0, (s_MS_many o2 V2 G2 (by omega)).mono (fun y M3 h3' => ?_)⟩
    obtain ⟨e3, hy⟩ := h3'
    subst e3
    rw [sg.hm] at hy
    rw [V2.r30, F2.1.2.1]
    refine ⟨⟨by omega, by omega⟩, o2, fun _ => ⟨V2.k0, F2.1.1, F2.2.1.1.1, (s_MW_places o2 F2.2.1).mono (fun u M4 h4 => ?_)⟩, fun q => by omega⟩
    obtain ⟨e4, u1, u2, u3, u4⟩ := h4
    subst e4
    rw [V2.r30, F2.1.2.2]
    refine ⟨⟨by omega, by omega⟩, o2, fun hu => h141 (nftv F2 C2 p2 (Or.inl (Int.le_trans (two_pow_le (by omega)) (u4 (by omega))))), fun hu => ⟨V2.k0, F2.1.1, F2.2.2.1.1.1, (s_MW_places o2 F2.2.2.1).mono (fun z M5 h5 => ?_)⟩⟩
    obtain ⟨e5, z1, z2, z3, z4⟩ := h5
    subst e5
    refine ⟨⟨by omega, by omega⟩, o2, fun hz => h141 (nftv F2 C2 p2 (Or.inr (Int.le_trans (two_pow_le (by omega)) (z4 (by omega))))), fun hz => ?_⟩
    have fit := ftv F2 p2 (Int.lt_of_lt_of_le u3 (two_pow_le (by omega))) (Int.lt_of_lt_of_le z3 (two_pow_le (by omega)))
    rw [hb] at fit
    have hfit := bs_fit h u3 z3 (by omega) (by omega)
    have rk : Ft M5 (s + 83 + 25 * k) 56 := (hR k (by omega)).out f2 (fun y q => by omega)
    refine k_MS_move_141 o2 ⟨by omega, by omega⟩ ⟨by omega, by omega⟩ ⟨fun q => by omega, fun _ => ?_⟩
    rw [V2.r13, V2.n31, V2.r30, Int.toNat_natCast, V2.f31 k (by omega)]
    refine ⟨V2.k0, V2.k31, by omega, rk.1.1, (s_MF_copy o2 rk F2 (by omega) hfit.1 hfit.2.1).mono (fun M6 h6 => ?_)⟩
    obtain ⟨o6, f6, F6, w4, w5, w6⟩ := h6
    have C6 := fc_copy C2 w4 w5 w6
    exact ⟨o6, Or.inr rfl, o6, (f2.mono (fun y q => Or.inl q)).trans (f6.mono (fun y q => Or.inr q)), W2.far f6 (fun y q => by have : s + 83 + 25 * k ≤ y ∧ y ≤ s + 83 + 25 * k + 4 := q; omega), Or.inr ⟨rfl, ⟨F6, C6.1, by rw [C6.2]; exact hfit.2.2, by rw [C6.2]; exact p2⟩, by rw [C6.2]; exact hb, fit⟩⟩
  | succ c ih =>
    intro i M2 hi h hb
    obtain ⟨o2, f2, W2, F2, C2, p2, q2⟩ := id h
    have B2 := hB0.out f2 W2
    obtain ⟨V2, G2, C2', n2, -, X2, -⟩ := id B2
    have sg : sameG M M2 s := sameG.of f2 (by omega) (fun y _ _ => by omega)
    have him : (i : Int) < mny M2 s k := by rw [sg.hm]; omega
    refine k_MS_move_25 o2 ⟨by omega, by omega⟩ ⟨by omega, by omega⟩ ⟨V2.k0, (s_MS_many o2 V2 G2 (by omega)).mono (fun y M3 h3' => ?_)⟩
    obtain ⟨e3, hy⟩ := h3'
    subst e3
    rw [sg.hm] at hy
    rw [V2.r21]
    refine ⟨⟨by omega, by omega⟩, o2, fun q => by omega, fun _ => ⟨V2.k0, (s_worthG (d := d) (n := n) (p := 21) (by omega) hxs (Or.inl ⟨rfl, rfl, rfl⟩) o2 V2 G2 C2' n2 (by omega) him W2 X2 h01').mono (fun M4 h4 => ?_)⟩⟩
    obtain ⟨o4, f4, W4, F4, C4, v4, s4⟩ := h4
    have V4 := V2.fi f4
    have hcx := cx_lt G2 (k := k) (i := i) (by omega) him
    have hw0 : 0 ≤ cw M3 s (cx M3 s k i) x := by
      have a := cw_le C2' hcx (f := fun _ => 0) (g := x) (fun b hb => (h01' _ (by have := tg_lt G2 hcx hb; omega)).1)
      rw [cw_const C2' hcx] at a
      exact a
    have b4 := F2.out f4 (fun y q => by omega)
    have c4 := C2.out F2 f4 (fun y q => by omega)
    have e4 := fv_out F2 f4 (fun y q => by omega)
    have sz1 := smp_size F4 C4 (k := 185) (by rw [v4]; exact s4)
    have sz2 := smp_size b4.1 c4 (k := 185) (by rw [e4]; exact q2)
    rw [V4.r0, V4.r28, V4.r30]
    refine ⟨o4, V4.k0, W4.1.1.1, (s_MU_compare (d := d + 3) o4 W4.1 F4 b4.1 (by unfold suO; omega) (by unfold suO; omega) (by omega) (by omega)).mono (fun u M5 h5 => ?_)⟩
    obtain ⟨o5, f5, Z5, hcv⟩ := h5
    have hc3 : u = -1 ∨ u = 0 ∨ u = 1 := by split at hcv <;> (try split at hcv) <;> omega
    have V5 := V4.fi f5
    have W5 : Wk M5 s := W4.out f5 Z5 (fun y q => by omega)
    have b5 := b4.1.out f5 (fun y q => by omega)
    have c5 := c4.out b4.1 f5 (fun y q => by omega)
    have e5 := fv_out b4.1 f5 (fun y q => by omega)
    have F5 := F4.out f5 (fun y q => by omega)
    have C5 := C4.out F4 f5 (fun y q => by omega)
    have v5 := fv_out F4 f5 (fun y q => by omega)
    have f25 : FI (bmS s) M M5 := (f2.trans (f4.mono (fun y q => Or.inl q))).trans (f5.mono (fun y q => by omega))
    have eW : fv M4 (s + 52) = cw M s (cx M s k i) x := by rw [v4, sg.hw, sg.hx]
    have eB : fv M4 (s + 62) = bq9 M s k x i := by rw [e4]; exact hb
    have cu := cmp_u F4 b4.1 (by rw [v4]; exact hw0) (by rw [e4]; exact p2) hcv
    rw [eW, eB] at cu
    have hI5 : bsI M s M5 := ⟨o5, f25, W5, b5.1, c5, by rw [e5, e4]; exact p2, by rw [e5, e4]; exact q2⟩
    have hnext : ∀ M6, bsI M s M6 → fv M6 (s + 62) = bq9 M s k x (i + 1) → h_MS_move_98 G (d + 5) s k i M6 (mvQ M s k x) := fun M6 h6 hb6 =>
      k_MS_move_98 h6.1 ⟨by omega, by omega⟩ ⟨by omega, by omega⟩ (ih (i + 1) M6 (by omega) h6 hb6)
    have sz3 := smp_size F5.1 C5 (k := 185) (by rw [v5, v4]; exact s4)
    have hcopy : bq9 M s k x (i + 1) = cw M s (cx M s k i) x → Cv G y_MF_copy (d + 5) [vr (s + 62), vr (s + 52)] M5 (fun M6 => mOk M6 ∧ h_MS_move_98 G (d + 5) s k i M6 (mvQ M s k x)) := by
      intro eq
      refine (s_MF_copy o5 W5.2.2.2.2.2 F5.1 (by omega) (by omega) (by omega)).mono (fun M6 h6 => ?_)
      obtain ⟨o6, f6, F6, w4, w5, w6⟩ := h6
      have C6 := fc_copy C5 w4 w5 w6
      exact ⟨o6, hnext M6 ⟨o6, f25.trans (f6.mono (fun y q => by have : s + 62 ≤ y ∧ y ≤ s + 62 + 4 := q; omega)), W5.put f6 F6.ft (by omega), F6, C6.1, by rw [C6.2, v5, v4]; exact hw0, by rw [C6.2, v5, v4]; exact s4⟩ (by rw [C6.2, v5, eW, eq])⟩
    have e22 : mI M5 (s + 22) = mI M (s + 22) := f25.2.2.2.2.2.2 _ (by omega)
    have keep : fv M5 (s + 62) = bq9 M s k x i := by rw [e5]; exact eB
    rw [V5.r30, V5.r28, V5.r4, V5.n22, e22, Int.toNat_natCast]
    refine ⟨⟨by omega, by omega⟩, o5, fun i0 => ⟨V5.k0, b5.1.1.1, hcopy ?_⟩, fun i0 => ⟨V5.k0, V5.k22, by omega, fun kd => ⟨fun u0 => hnext M5 hI5 ?_, fun u0 => ⟨b5.1.1.1, hcopy ?_⟩⟩, fun kd => ⟨fun u0 => hnext M5 hI5 ?_, fun u0 => ⟨b5.1.1.1, hcopy ?_⟩⟩⟩⟩
    · have z0 : i = 0 := by omega
      rw [z0]
      all_goals rfl
    · rw [bq_s (by omega), if_neg, keep]
      intro y
      rcases y with y | y
      · have := cu.1.2 y.2
        omega
      · exact y.1 kd
    · rw [bq_s (by omega), if_pos]
      exact Or.inl ⟨kd, cu.1.1 (by omega)⟩
    · rw [bq_s (by omega), if_neg, keep]
      intro y
      rcases y with y | y
      · exact kd y.1
      · have := cu.2.2 y.2
        omega
    · rw [bq_s (by omega), if_pos]
      exact Or.inr ⟨kd, cu.2.1 (by omega)⟩
end MV
end
section
/-! The solver: within. -/
def Ok (M : mM) (s e n : Nat) : Prop := ∀ k, k < n → okF M (s + e + 25 * k)
abbrev inF (s : Nat) : Nat → Prop := fun y => bmS s y ∨ y = s + 30 ∨ eS s 73 y ∨ eS s 83 y ∨ eS s 88 y
theorem okF.out {S : Nat → Prop} {M M' : mM} {f : Nat} (h : okF M f) (k : FI S M M') (hs : ∀ y, S y → y < f ∨ f + 4 < y) : okF M' f := by
  obtain ⟨h1, h2, h3, h4⟩ := h
  have e := fv_out h1 k hs
  exact ⟨(h1.out k hs).1, h2.out h1 k hs, by rw [e]; exact h3, by rw [e]; exact h4⟩
theorem Ok.out {S : Nat → Prop} {M M' : mM} {s e n : Nat} (h : Ok M s e n) (k : FI S M M') (hs : ∀ i y, i < n → S y → y < s + e + 25 * i ∨ s + e + 25 * i + 4 < y) : Ok M' s e n :=
  fun i hi => (h i hi).out k (fun y q => hs i y hi q)
theorem Ok.xt {M : mM} {s e n : Nat} (h : Ok M s e n) : Xt M s e n (fun k => fv M (s + e + 25 * k)) ∧ ∀ k, k < n → Smp 21 (fv M (s + e + 25 * k)) ∧ 0 ≤ fv M (s + e + 25 * k) :=
  ⟨fun k hk => ⟨(h k hk).1, (h k hk).2.1, rfl⟩, fun k hk => (h k hk).2.2⟩
theorem inF_far {s e i y : Nat} (he : e = 68 ∨ e = 78) (hi : i < 512) (q : inF s y) : y < s + e + 25 * i ∨ s + e + 25 * i + 4 < y := by
  rcases he with z | z <;> subst z <;> omega
theorem inF_vH {s y : Nat} (q : inF s y) : vH s y := by omega
theorem inF_ct {s y : Nat} (q : inF s y) : y < s + 12868 := by omega
theorem inF_lo {s y : Nat} (q : inF s y) : s < y ∧ (y < s + 22 ∨ s + 28 < y) ∧ y ≠ s + 32 ∧ y ≠ s + 33 ∧ y ≠ s + 34 := by omega
/-- copying one of 512 fractions to another place -/
theorem ok_copy {G : mG} {d s k a b : Nat} {M : mM} {Q : mM → Prop} (hO : mOk M) (hR : Rm M s a) (hk : k < 512) (h : okF M (s + b + 25 * k)) (hne : a + 4 < b ∨ b + 4 < a) (hQ : ∀ M', mOk M' → FI (fS (s + a + 25 * k)) M M' → okF M' (s + a + 25 * k) → Rm M' s a → fv M' (s + a + 25 * k) = fv M (s + b + 25 * k) → Q M') : Cv G y_MF_copy (d + 1) [vr (s + a + 25 * k), vr (s + b + 25 * k)] M Q := by
  obtain ⟨h1, h2, h3, h4⟩ := h
  refine (s_MF_copy hO (hR k hk) h1 (by omega) h1.2.1.1.2.2.2.2.2.2 h1.2.2.1.1.2.2.2.2.2.2).mono (fun M' h' => ?_)
  obtain ⟨o', f', F', w4, w5, w6⟩ := h'
  have C' := fc_copy h2 w4 w5 w6
  exact hQ M' o' f' ⟨F', C'.1, by rw [C'.2]; exact h3, by rw [C'.2]; exact h4⟩ (hR.put hk f' F'.ft) C'.2
def wiI (M : mM) (s n : Nat) (M2 : mM) : Prop := mOk M2 ∧ FI (inF s) M M2 ∧ Wk M2 s ∧ Rm M2 s 73 ∧ Rm M2 s 83 ∧ Rm M2 s 88 ∧ Ok M2 s 88 n
/-- numbers after r moves -/
def Vwr (M0 : mM) (s e n r : Nat) (M : mM) : Prop := ∀ k, k < n → fv M (s + e + 25 * k) = wiR M0 s r k
theorem Vwr.out {S : Nat → Prop} {M0 M M' : mM} {s e n r : Nat} (v : Vwr M0 s e n r M) (h : Ok M s e n) (k : FI S M M') (hs : ∀ i y, i < n → S y → y < s + e + 25 * i ∨ s + e + 25 * i + 4 < y) : Vwr M0 s e n r M' := fun i hi => by
  rw [fv_out (h i hi).1 k (fun y q => hs i y hi q)]
  exact v i hi
/-- all up to r moves fit -/
def Frr (M0 : mM) (s n r : Nat) : Prop := ∀ m, m ≤ r → ∀ k, k < n → ft9 (wiR M0 s m k)
def wiQ (M : mM) (s n L : Nat) (r : Int) (M' : mM) : Prop := mOk M' ∧ FI (inF s) M M' ∧ Wk M' s ∧ Rm M' s 73 ∧ Rm M' s 83 ∧ Rm M' s 88 ∧ (∀ j, j ≠ 1 → mI M' (s + 30) j = mI M (s + 30) j) ∧ ((r = 0 ∧ mI M' (s + 30) 1 = 1 ∧ Ok M' s 73 n ∧ Frr M s n L) ∨ (r = 6 ∧ mI M' (s + 30) 1 = 0 ∧ ∃ m, m ≤ L ∧ ∃ k, k < n ∧ ¬ ft9 (wiR M s m k)))
section WI
variable {G : mG} {d s n L : Nat} {M : mM} {l1 : Int}
/-- where has[1] is off -/
abbrev h30 (M : mM) (s : Nat) (M2 : mM) : Prop := (∀ j, j ≠ 1 → mI M2 (s + 30) j = mI M (s + 30) j) ∧ mI M2 (s + 30) 1 = 0
theorem s_wi121 (hV : Vk M s) (hn : mI M s 1 = n) (hn5 : n ≤ 512) (hf : Frr M s n L) : ∀ (c k : Nat) (M2 : mM), k + c = n → wiI M s n M2 → h30 M s M2 → Ok M2 s 73 k → h_MS_within_121 G (d + 6) s k M2 (wiQ M s n L) := by
  intro c
  induction c with
  | zero =>
    intro k M2 hk h hh hok
    have ek : k = n := by omega
    subst ek
    obtain ⟨o2, f2, W2, R7, R8, R9, K2⟩ := h
    have V2 := hV.fi f2
    have fe := f2.2.2.2.2.2.2
    refine k_MS_within_121 o2 ⟨by omega, by omega⟩ ?_
    rw [fe s (fun q => by have := inF_lo q; omega), hn, V2.r12, V2.n30]
    refine ⟨V2.k0, fun _ => ⟨V2.k30, by omega, fun M3 e3 => ?_⟩, fun q => by omega⟩
    have f3 : FI (fun y => y = s + 30) M2 M3 := by rw [e3]; exact FI.ui rfl
    have o3 : mOk M3 := by rw [e3]; exact mOk_UI o2 ⟨by omega, by omega⟩
    refine ⟨o3, f2.trans (f3.mono (fun y q => Or.inr (Or.inl q))), W2.far f3 (fun y q => by omega), R7.out f3 (fun y q => by omega), R8.out f3 (fun y q => by omega), R9.out f3 (fun y q => by omega), fun j hj => ?_, Or.inl ⟨rfl, ?_, hok.out f3 (fun i y hi q => by omega), hf⟩⟩
    · rw [e3, mI_UI, if_neg (fun w => hj w.2)]
      exact hh.1 j hj
    · rw [e3, mI_UI, if_pos ⟨rfl, rfl⟩]
  | succ c ih =>
    intro k M2 hk h hh hok
    obtain ⟨o2, f2, W2, R7, R8, R9, K2⟩ := h
    have V2 := hV.fi f2
    have fe := f2.2.2.2.2.2.2
    have ea : mR M2 (s + 29) (3 * (k : Int) + 1).toNat = s + 73 + 25 * k := by
      rw [show (3 * (k : Int) + 1).toNat = 3 * k + 1 by first | rfl | omega, V2.f29 k 1 (by omega) (by omega)]
      omega
    refine k_MS_within_121 o2 ⟨by omega, by omega⟩ ?_
    rw [fe s (fun q => by have := inF_lo q; omega), hn, V2.r11, V2.r21, V2.n29, V2.n38, ea, Int.toNat_natCast, V2.f38 k (by omega)]
    refine ⟨V2.k0, fun q => by omega, fun _ => ⟨V2.k29, by omega, V2.k38, by omega, (R7 k (by omega)).1.1, ok_copy (d := d + 5) o2 R7 (by omega) (K2 k (by omega)) (by omega) (fun M3 o3 f3 k3 r3 _ => ?_)⟩⟩
    have f3' : ∀ y, fS (s + 73 + 25 * k) y → s + 73 + 25 * k ≤ y ∧ y ≤ s + 73 + 25 * k + 4 := fun y q => q
    refine ⟨o3, ih (k + 1) M3 (by omega) ⟨o3, f2.trans (f3.mono (fun y q => by have := f3' y q; omega)), W2.far f3 (fun y q => by have := f3' y q; omega), r3, R8.out2 f3 (fun i y hi q => by have := f3' y q; omega), R9.out2 f3 (fun i y hi q => by have := f3' y q; omega), K2.out f3 (fun i y hi q => by have := f3' y q; omega)⟩ ?_ (fun j hj => ?_)⟩
    · unfold h30
      rw [f3.2.2.2.2.2.2 (s + 30) (fun q => by have := f3' _ q; omega)]
      exact hh
    · by_cases z : j = k
      · rw [z]; exact k3
      · exact (hok j (by omega)).out f3 (fun y q => by have := f3' y q; omega)
theorem s_wi84 {r : Nat} (hV : Vk M s) (hn : mI M s 1 = n) (hn5 : n ≤ 512) (h0 : 0 ≤ l1) (hl : l1 ≤ 32) (hr : r ≤ 32) (hQ : ∀ M', wiI M s n M' → h30 M s M' → Vwr M s 88 n (r + 1) M' → h_MS_within_50 G (d + 6) s l1 ((r : Int) + 1) M' (wiQ M s n L)) : ∀ (c k : Nat) (M2 : mM), k + c = n → wiI M s n M2 → h30 M s M2 → Ok M2 s 83 n → Vwr M s 83 n (r + 1) M2 → (∀ j, j < k → fv M2 (s + 88 + 25 * j) = wiR M s (r + 1) j) → h_MS_within_84 G (d + 6) s l1 r k M2 (wiQ M s n L) := by
  intro c
  induction c with
  | zero =>
    intro k M2 hk h hh hok v83 v88
    obtain ⟨o2, f2, -⟩ := id h
    have V2 := hV.fi f2
    refine k_MS_within_84 o2 ⟨by omega, by omega⟩ ⟨by omega, by omega⟩ ⟨by omega, by omega⟩ ?_
    rw [f2.2.2.2.2.2.2 s (fun q => by have := inF_lo q; omega), hn]
    exact ⟨V2.k0, fun _ => hQ M2 h hh (fun j hj => v88 j (by omega)), fun q => by omega⟩
  | succ c ih =>
    intro k M2 hk h hh hok v83 v88
    obtain ⟨o2, f2, W2, R7, R8, R9, K2⟩ := h
    have V2 := hV.fi f2
    have fe := f2.2.2.2.2.2.2
    refine k_MS_within_84 o2 ⟨by omega, by omega⟩ ⟨by omega, by omega⟩ ⟨by omega, by omega⟩ ?_
    rw [fe s (fun q => by have := inF_lo q; omega), hn, V2.r13, V2.r21, V2.n31, V2.n38, Int.toNat_natCast, V2.f38 k (by omega), V2.f31 k (by omega)]
    refine ⟨V2.k0, fun q => by omega, fun _ => ⟨V2.k38, by omega, V2.k31, by omega, (R9 k (by omega)).1.1, ok_copy (d := d + 5) o2 R9 (by omega) (hok k (by omega)) (by omega) (fun M3 o3 f3 k3 r3 ev => ?_)⟩⟩
    have f3' : ∀ y, fS (s + 88 + 25 * k) y → s + 88 + 25 * k ≤ y ∧ y ≤ s + 88 + 25 * k + 4 := fun y q => q
    refine ⟨o3, ih (k + 1) M3 (by omega) ⟨o3, f2.trans (f3.mono (fun y q => by have := f3' y q; omega)), W2.far f3 (fun y q => by have := f3' y q; omega), R7.out2 f3 (fun i y hi q => by have := f3' y q; omega), R8.out2 f3 (fun i y hi q => by have := f3' y q; omega), r3, fun j hj => ?_⟩ ?_ (hok.out f3 (fun i y hi q => by have := f3' y q; omega)) (v83.out hok f3 (fun i y hi q => by have := f3' y q; omega)) (fun j hj => ?_)⟩
    rotate_left 2
    · by_cases z : j = k
      · rw [z, ev]; exact v83 k (by omega)
      · rw [fv_out (K2 j (by omega)).1 f3 (fun y q => by have := f3' y q; omega)]
        exact v88 j (by omega)
    · by_cases z : j = k
      · rw [z]; exact k3
      · exact (K2 j hj).out f3 (fun y q => by have := f3' y q; omega)
    · unfold h30
      rw [f3.2.2.2.2.2.2 (s + 30) (fun q => by have := f3' _ q; omega)]
      exact hh
theorem s_wi50 (hV : Vk M s) (hG : GW M s) (hC : GB M s) (hn : mI M s 1 = n) (hn5 : n ≤ 512) (h0 : 0 ≤ l1) (hl : l1 ≤ 32) (hL : L = l1.toNat) : ∀ (t r : Nat) (M2 : mM), (r : Int) + t = l1 → wiI M s n M2 → h30 M s M2 → Vwr M s 88 n r M2 → Frr M s n r → h_MS_within_50 G (d + 6) s l1 r M2 (wiQ M s n L) := by
  intro t
  induction t with
  | zero =>
    intro r M2 ht h hh hv hf
    have eL : L = r := by omega
    exact k_MS_within_50 h.1 ⟨by omega, by omega⟩ ⟨by omega, by omega⟩ ⟨fun _ => s_wi121 hV hn hn5 (by rw [eL]; exact hf) n 0 M2 (by omega) h hh (fun j hj => by omega), fun q => by omega⟩
  | succ t ih =>
    intro r M2 ht h hh hv hf
    refine k_MS_within_50 h.1 ⟨by omega, by omega⟩ ⟨by omega, by omega⟩ ⟨fun q => by omega, fun _ => ?_⟩
    suffices H : ∀ (c k : Nat) (M3 : mM), k + c = n → wiI M s n M3 → h30 M s M3 → Ok M3 s 83 k → Vwr M s 88 n r M3 → (∀ j, j < k → fv M3 (s + 83 + 25 * j) = wiR M s (r + 1) j ∧ ft9 (wiR M s (r + 1) j)) → h_MS_within_57 G (d + 6) s l1 r k M3 (wiQ M s n L) from H n 0 M2 (by omega) h hh (fun j hj => by omega) hv (fun j hj => by omega)
    clear h hh hv M2
    intro c
    induction c with
    | zero =>
      intro k M3 hk h hh hok hv hw
      have ek : k = n := by omega
      subst ek
      obtain ⟨o2, f2, -⟩ := id h
      have V2 := hV.fi f2
      refine k_MS_within_57 o2 ⟨by omega, by omega⟩ ⟨by omega, by omega⟩ ⟨by omega, by omega⟩ ?_
      rw [f2.2.2.2.2.2.2 s (fun q => by have := inF_lo q; omega), hn]
      exact ⟨V2.k0, fun _ => s_wi84 hV hn hn5 h0 hl (by omega) (fun M' h' hh' hv' => ih (r + 1) M' (by omega) h' hh' hv' (fun m hm j hj => by
        by_cases z : m = r + 1
        · rw [z]; exact (hw j hj).2
        · exact hf m (by omega) j hj)) k 0 M3 (by omega) h hh hok (fun j hj => (hw j hj).1) (fun j hj => by omega), fun q => by omega⟩
    | succ c ihc =>
      intro k M3 hk h hh hok hv hw
      obtain ⟨o3, f3, W3, R7, R8, R9, K3⟩ := id h
      have V3 := hV.fi f3
      have sg : sameG M M3 s := sameG.of f3 (fun q => by have := inF_lo q; omega) (fun y a b q => by have := inF_lo q; omega)
      have x3 := K3.xt
      refine k_MS_within_57 o3 ⟨by omega, by omega⟩ ⟨by omega, by omega⟩ ⟨by omega, by omega⟩ ?_
      rw [sg.1, hn]
      refine ⟨V3.k0, fun q => by omega, fun _ => (s_MS_move (d := d) o3 ⟨V3, sg.gw hG, sg.gb hC, by rw [sg.1]; exact hn, W3, x3.1, x3.2⟩ (by omega) R8).mono (fun y M4 h4 => ?_)⟩
      obtain ⟨o4, f4, W4, h4⟩ := h4
      have eb : bq9 M3 s k (fun k => fv M3 (s + 88 + 25 * k)) (mny M3 s k).toNat = wiR M s (r + 1) k := by
        rw [sg.hm]
        exact bq_cg sg hG hn (by omega) (fun t ht => hv t ht) _ (Nat.le_refl _)
      rw [eb] at h4
      have f4' : ∀ y, nxS s k y → bmS s y ∨ (s + 83 + 25 * k ≤ y ∧ y ≤ s + 83 + 25 * k + 4) := fun y q => q
      have e30 : mI M4 (s + 30) = mI M3 (s + 30) := f4.2.2.2.2.2.2 _ (fun q => by have := f4' _ q; omega)
      have hh4 : h30 M s M4 := by unfold h30; rw [e30]; exact hh
      have f04 : FI (inF s) M M4 := f3.trans (f4.mono (fun y q => by have := f4' y q; omega))
      have R74 : Rm M4 s 73 := R7.out2 f4 (fun i y hi q => by have := f4' y q; omega)
      have R94 : Rm M4 s 88 := R9.out2 f4 (fun i y hi q => by have := f4' y q; omega)
      have K4 : Ok M4 s 88 n := K3.out f4 (fun i y hi q => by have := f4' y q; omega)
      have hv4 : Vwr M s 88 n r M4 := hv.out K3 f4 (fun i y hi q => by have := f4' y q; omega)
      rcases h4 with ⟨y0, g4, nf⟩ | ⟨y1, k4, e4, ft⟩
      · subst y0
        have R84 : Rm M4 s 83 := R8.out g4 (fun y q => by omega)
        exact ⟨⟨by omega, by omega⟩, o4, fun _ => ⟨o4, f04, W4, R74, R84, R94, hh4.1, Or.inr ⟨rfl, hh4.2, r + 1, by omega, k, by omega, nf⟩⟩, fun q => absurd rfl q⟩
      · subst y1
        have R84 : Rm M4 s 83 := fun i hi => by
          by_cases z : i = k
          · rw [z]; exact k4.1.ft
          · exact (R8 i hi).out f4 (fun y q => by have := f4' y q; omega)
        refine ⟨⟨by omega, by omega⟩, o4, fun q => by omega, fun _ => ihc (k + 1) M4 (by omega) ⟨o4, f04, W4, R74, R84, R94, K4⟩ hh4 (fun j hj => ?_) hv4 (fun j hj => ?_)⟩
        · by_cases z : j = k
          · rw [z]; exact k4
          · exact (hok j (by omega)).out f4 (fun y q => by have := f4' y q; omega)
        · by_cases z : j = k
          · rw [z]; exact ⟨e4, ft⟩
          · rw [fv_out (hok j (by omega)).1 f4 (fun y q => by have := f4' y q; omega)]
            exact hw j (by omega)
theorem s_MS_within (h0 : 0 ≤ l1) (hl : l1 ≤ 32) (hO : mOk M) (h : Sv M s n) : Ci G y_MS_within (d + 7) [vr s, vi l1] M (fun r M' => (mOk M' ∧ FI (vH s) M M' ∧ Sv M' s n ∧ (r = 0 ∨ r = 6)) ∧ mI M' (s + 30) 0 = mI M (s + 30) 0 ∧ ∀ T : xt9, SvT M s T → anA9 T l1.toNat r) := by
  have hn5 := h.n5
  obtain ⟨V, g, c, hn, t, W, T, R, H, hc⟩ := id h
  have hfin : ∀ r M', wiQ M s n l1.toNat r M' → ((mOk M' ∧ FI (vH s) M M' ∧ Sv M' s n ∧ (r = 0 ∨ r = 6)) ∧ mI M' (s + 30) 0 = mI M (s + 30) 0 ∧ ∀ T : xt9, SvT M s T → anA9 T l1.toNat r) := fun r M' k => by
    obtain ⟨o', f', W', R7, R8, R9, k30, kr⟩ := k
    have sg : sameG M M' s := sameG.of f' (fun q => by have := inF_lo q; omega) (fun y a b q => by have := inF_lo q; omega)
    have fe := f'.2.2.2.2.2.2
    refine ⟨⟨o', f'.mono (fun y q => inF_vH q), ⟨V.fi f', sg.gw g, sg.gb c, by rw [sg.1]; exact hn, t.out sg (fe _ (fun q => by have := inF_lo q; omega)), W', T.out f' (fun y q => inF_ct q), fun e he => ?_, fun w hw => ?_, fun q => ?_⟩, by rcases kr with z | z; exact Or.inl z.1; exact Or.inr z.1⟩, k30 0 (by omega), fun T hT => ?_⟩
    rotate_right
    · have eT : T.length = n := by have := hT.1; omega
      rcases kr with ⟨z1, -, -, z2⟩ | ⟨z1, -, m, z2, k, z3, z4⟩
      · exact Or.inl ⟨z1, fun m hm k hk => by rw [← ref_wi hT m k hk]; exact z2 m hm k (by omega)⟩
      · exact Or.inr ⟨z1, m, z2, k, by omega, by rw [← ref_wi hT m k (by omega)]; exact z4⟩
    · rcases he with z | z | z | z | z <;> subst z
      · exact (R 68 (by omega)).out2 f' (fun i y hi q => inF_far (by omega) hi q)
      · exact R7
      · exact (R 78 (by omega)).out2 f' (fun i y hi q => inF_far (by omega) hi q)
      · exact R8
      · exact R9
    · by_cases z : w = 1
      · subst z
        rcases kr with ⟨z1, z2, z3, -⟩ | ⟨z1, z2, -⟩
        · have x3 := z3.xt
          exact ⟨Or.inr z2, fun _ => ⟨_, x3.1, x3.2⟩⟩
        · exact ⟨Or.inl z2, fun q => by omega⟩
      · obtain ⟨a1, a2⟩ := H w hw
        unfold Hs
        rw [k30 w z]
        refine ⟨a1, fun q => ?_⟩
        obtain ⟨x, X, v⟩ := a2 q
        exact ⟨x, X.out2 f' (fun i y hi q => inF_far (by omega) (by omega) q), v⟩
    · rw [k30 0 (by omega)] at q
      exact (hc q).out sg (fe _ (fun q => by have := inF_lo q; omega))
  refine Ci.mono (Q := wiQ M s n l1.toNat) ?_ hfin
  refine k_MS_within hO ⟨by omega, by omega⟩ ?_
  rw [V.r12, V.n30]
  refine ⟨V.k0, V.k30, by omega, fun M1 e1 => ?_⟩
  have f1 : FI (fun y => y = s + 30) M M1 := by rw [e1]; exact FI.ui rfl
  have o1 : mOk M1 := by rw [e1]; exact mOk_UI hO ⟨by omega, by omega⟩
  have hh1 : h30 M s M1 := ⟨fun j hj => by rw [e1, mI_UI, if_neg (fun w => hj w.2)], by rw [e1, mI_UI, if_pos ⟨rfl, rfl⟩]⟩
  suffices H : ∀ (c k : Nat) (M2 : mM), k + c = n → mOk M2 → FI (inF s) M M2 → Wk M2 s → Rm M2 s 73 → Rm M2 s 83 → Rm M2 s 88 → h30 M s M2 → Ok M2 s 88 k → (∀ j, j < k → fv M2 (s + 88 + 25 * j) = wiR M s 0 j) → h_MS_within_9 G (d + 6) s l1 k M2 (wiQ M s n l1.toNat) from
    H n 0 M1 (by omega) o1 (f1.mono (fun y q => Or.inr (Or.inl q))) (W.far f1 (fun y q => by omega)) ((R 73 (by omega)).out f1 (fun y q => by omega)) ((R 83 (by omega)).out f1 (fun y q => by omega)) ((R 88 (by omega)).out f1 (fun y q => by omega)) hh1 (fun j hj => by omega) (fun j hj => by omega)
  intro c'
  induction c' with
  | zero =>
    intro k M2 hk o2 f2 W2 R7 R8 R9 hh hok hv
    have ek : k = n := by omega
    subst ek
    have V2 := V.fi f2
    refine k_MS_within_9 o2 ⟨by omega, by omega⟩ ⟨by omega, by omega⟩ ?_
    rw [f2.2.2.2.2.2.2 s (fun q => by have := inF_lo q; omega), hn]
    exact ⟨V2.k0, fun _ => s_wi50 V g c hn hn5 h0 hl rfl l1.toNat 0 M2 (by omega) ⟨o2, f2, W2, R7, R8, R9, hok⟩ hh hv (fun m hm j hj => by
      have m0 : m = 0 := by omega
      rw [m0]
      exact ft_01 (Classical.em _)), fun q => by omega⟩
  | succ c' ih =>
    intro k M2 hk o2 f2 W2 R7 R8 R9 hh hok hv
    have V2 := V.fi f2
    have fe := f2.2.2.2.2.2.2
    have rk := R9 k (by omega)
    refine k_MS_within_9 o2 ⟨by omega, by omega⟩ ⟨by omega, by omega⟩ ?_
    rw [fe s (fun q => by have := inF_lo q; omega), hn, V2.r21, V2.r4, V2.n38, V2.n22, Int.toNat_natCast, V2.f38 k (by omega)]
    refine ⟨V2.k0, fun q => by omega, fun _ => ⟨V2.k38, by omega, V2.k22, by omega, fun v hv9 => ⟨rk.1.1, (s_MF_set ⟨by split at hv9 <;> omega, by split at hv9 <;> omega⟩ (by split at hv9 <;> omega) ⟨by omega, by omega⟩ (by omega) o2 rk (by omega)).mono (fun M3 h3 => ?_)⟩⟩⟩
    obtain ⟨o3, f3, F3, y1, y2, y3⟩ := h3
    have hv01 : v = 0 ∨ v = 1 := by split at hv9 <;> omega
    have C3 := fc_one F3 y2 (fun q => y3 (by omega))
    have e3 : fv M3 (s + 88 + 25 * k) = 0 ∨ fv M3 (s + 88 + 25 * k) = 1 := by
      rw [fv_set y1 y2]
      have z0 : ((0 : Int) : Rat) = 0 := rfl
      have z1 : ((1 : Int) : Rat) = 1 := rfl
      rcases hv01 with z | z
      · left; rw [z, z0]; grind
      · right; rw [z, z1]; grind
    have k3 : okF M3 (s + 88 + 25 * k) := by
      rcases e3 with z | z
      · exact ⟨F3, C3, by rw [z]; exact smp_zero, by rw [z]; decide⟩
      · exact ⟨F3, C3, by rw [z]; exact smp_one, by rw [z]; decide⟩
    have f3' : ∀ y, fS (s + 88 + 25 * k) y → s + 88 + 25 * k ≤ y ∧ y ≤ s + 88 + 25 * k + 4 := fun y q => q
    refine ⟨o3, ih (k + 1) M3 (by omega) o3 (f2.trans (f3.mono (fun y q => by have := f3' y q; omega))) (W2.far f3 (fun y q => by have := f3' y q; omega)) (R7.out2 f3 (fun i y hi q => by have := f3' y q; omega)) (R8.out2 f3 (fun i y hi q => by have := f3' y q; omega)) (R9.put (by omega) f3 F3.ft) ?_ (fun j hj => ?_) (fun j hj => ?_)⟩
    rotate_left 2
    · by_cases z : j = k
      · rw [z, fv_set y1 y2, hv9]
        have z0 : ((0 : Int) : Rat) = 0 := rfl
        have z1 : ((1 : Int) : Rat) = 1 := rfl
        show ((if mI M2 (s + 22) k = 3 then (1 : Int) else 0 : Int) : Rat) * ((1 : Int) : Rat)⁻¹ = (if mI M (s + 22) k = 3 then (1 : Rat) else 0)
        rw [fe (s + 22) (fun q => by have := inF_lo q; omega)]
        split
        · rw [z1]; grind
        · rw [z0, z1]; grind
      · rw [fv_out (hok j (by omega)).1 f3 (fun y q => by have := f3' y q; omega)]
        exact hv j (by omega)
    · unfold h30
      rw [f3.2.2.2.2.2.2 (s + 30) (fun q => by have := f3' _ q; omega)]
      exact hh
    · by_cases z : j = k
      · rw [z]; exact k3
      · exact (hok j (by omega)).out f3 (fun y q => by have := f3' y q; omega)
end WI
end
section
/-! The solver: what it tells. -/
theorem s_digits2 {G : mG} {d u a ra c : Nat} {M : mM} {D : Nat} (hO : mOk M) (hZ : Sz M u) (hA : W3 M a ra) (oa : a + 1 < u + 11 ∨ u + 12 < a) (z1 : mI M a 1 ≤ 900) (hc : mK M c = 30) (hn : D ≤ mN M c) (hD : 0 < D) (hD2 : D < 100000) (hv : wv M a < 10 ^ D) (oc : c < u + 1 ∨ u + 20 < c) :
    Ci G y_MU_digits (d + 2) [vr u, vr a, vr c] M (fun x M' => mOk M' ∧ FI (fun x => x = u + 11 ∨ x = u + 12 ∨ x = c) M M' ∧ Sz M' u ∧ 0 < x ∧ x ≤ D ∧ ∀ j : Nat, (j : Int) < x → 0 ≤ mI M' c j ∧ mI M' c j ≤ 9) := by
  refine k_MU_digits hO ?_
  rw [hZ.1.2.2.2.1]
  refine ⟨hZ.1.1, (hZ.wh 11 (by decide)).1, (s_MW_copy hO (hZ.wh 11 (by decide)) hA (by omega) z1).mono (fun M1 h1 => ?_)⟩
  obtain ⟨g1, g2, g3, g4⟩ := h1
  have Z1 := hZ.step (c := 11) (by decide) rfl g2 g3.1
  refine ⟨g1, ?_⟩
  suffices H : ∀ (k : Nat) (l : Int) (M1 : mM), l + k + 1 = D → 0 ≤ l → mOk M1 → FI (fun x => x = u + 11 ∨ x = u + 12 ∨ x = c) M M1 → Sz M1 u → W3 M1 (u + 11) 900 → wv M1 (u + 11) < 10 ^ (k + 1) → (∀ j : Nat, (j : Int) < l → 0 ≤ mI M1 c j ∧ mI M1 c j ≤ 9) → h_MU_digits_10 G (d + 1) u c l M1 (fun x M' => mOk M' ∧ FI (fun x => x = u + 11 ∨ x = u + 12 ∨ x = c) M M' ∧ Sz M' u ∧ 0 < x ∧ x ≤ D ∧ ∀ j : Nat, (j : Int) < x → 0 ≤ mI M' c j ∧ mI M' c j ≤ 9) from
    H (D - 1) 0 M1 (by omega) (by omega) g1 (g2.mono (fun x q => by omega)) Z1 g3 (by rw [g4, show D - 1 + 1 = D by first | rfl | omega]; exact hv) (fun j hj => by omega)
  intro k
  induction k with
  | zero =>
    intro l M1 hk h0 hO1 F1 Z1 W1 hw hd
    refine k_MU_digits_10 hO1 ⟨by omega, by omega⟩ ?_
    rw [Z1.1.2.2.2.1]
    refine ⟨Z1.1.1, W1.1.1, (s_MW_tenth hO1 W1).mono (fun x M2 h2 => ?_)⟩
    obtain ⟨k1, k2, k3, k4, k5⟩ := h2
    have Z2 := Z1.step (c := 11) (by decide) rfl k2 k3.1
    have F2 := F1.trans (k2.mono (fun x q => by omega))
    have n2 : mN M2 c = mN M c := by rw [F2.2.1]
    refine ⟨⟨by omega, by omega⟩, k1, by rw [F2.1]; exact hc, by omega, fun M3 e3 => ?_⟩
    have f3 : FI (fun x => x = c) M2 M3 := by rw [e3]; exact FI.ui rfl
    have o3 : mOk M3 := by rw [e3]; exact mOk_UI k1 ⟨by omega, by omega⟩
    have hd3 : ∀ j : Nat, (j : Int) < l + 1 → 0 ≤ mI M3 c j ∧ mI M3 c j ≤ 9 := fun j hj => by
      rw [e3, mI_UI]
      by_cases z : j = l.toNat
      · rw [if_pos ⟨rfl, z⟩]
        omega
      · rw [if_neg (fun w => z w.2), k2.2.2.2.2.2.2 c (by omega)]
        exact hd j (by omega)
    have Z3 : Sz M3 u := ⟨Z2.1.fi f3, Z2.2.1.fi f3, Z2.2.2.1.fi f3, fun e he => (Z2.wh e he).out f3 (by
      have h1 : ∀ e ∈ szL, 1 ≤ e ∧ e ≤ 20 := by decide
      have h2 := h1 e he
      omega)⟩
    obtain ⟨W3', v3⟩ := k3.out f3 (by omega) (by omega)
    rw [Z3.1.2.2.2.1]
    refine ⟨Z3.1.1, W3'.1.1, (s_MW_isZero o3 W3'.1).mono (fun y M4 h4 => ?_)⟩
    obtain ⟨e4, hy⟩ := h4
    subst e4
    have hz : mI M4 (u + 11) 1 = 0 := W3'.zero.2 (by have hw' : wv M1 (u + 11) < 10 := hw; have := W1.nonneg; omega)
    rw [if_pos hz] at hy
    exact ⟨⟨by omega, by omega⟩, o3, fun q => by omega, fun _ => ⟨o3, F2.trans (f3.mono (fun x q => by omega)), Z3, by omega, by omega, hd3⟩⟩
  | succ k ih =>
    intro l M1 hk h0 hO1 F1 Z1 W1 hw hd
    refine k_MU_digits_10 hO1 ⟨by omega, by omega⟩ ?_
    rw [Z1.1.2.2.2.1]
    refine ⟨Z1.1.1, W1.1.1, (s_MW_tenth hO1 W1).mono (fun x M2 h2 => ?_)⟩
    obtain ⟨k1, k2, k3, k4, k5⟩ := h2
    have Z2 := Z1.step (c := 11) (by decide) rfl k2 k3.1
    have F2 := F1.trans (k2.mono (fun x q => by omega))
    have n2 : mN M2 c = mN M c := by rw [F2.2.1]
    refine ⟨⟨by omega, by omega⟩, k1, by rw [F2.1]; exact hc, by omega, fun M3 e3 => ?_⟩
    have f3 : FI (fun x => x = c) M2 M3 := by rw [e3]; exact FI.ui rfl
    have o3 : mOk M3 := by rw [e3]; exact mOk_UI k1 ⟨by omega, by omega⟩
    have hd3 : ∀ j : Nat, (j : Int) < l + 1 → 0 ≤ mI M3 c j ∧ mI M3 c j ≤ 9 := fun j hj => by
      rw [e3, mI_UI]
      by_cases z : j = l.toNat
      · rw [if_pos ⟨rfl, z⟩]
        omega
      · rw [if_neg (fun w => z w.2), k2.2.2.2.2.2.2 c (by omega)]
        exact hd j (by omega)
    have Z3 : Sz M3 u := ⟨Z2.1.fi f3, Z2.2.1.fi f3, Z2.2.2.1.fi f3, fun e he => (Z2.wh e he).out f3 (by
      have h1 : ∀ e ∈ szL, 1 ≤ e ∧ e ≤ 20 := by decide
      have h2 := h1 e he
      omega)⟩
    obtain ⟨W3', v3⟩ := k3.out f3 (by omega) (by omega)
    rw [Z3.1.2.2.2.1]
    refine ⟨Z3.1.1, W3'.1.1, (s_MW_isZero o3 W3'.1).mono (fun y M4 h4 => ?_)⟩
    obtain ⟨e4, hy⟩ := h4
    subst e4
    refine ⟨⟨by split at hy <;> omega, by split at hy <;> omega⟩, o3, fun q => ih (l + 1) M4 (by omega) (by omega) o3 (F2.trans (f3.mono (fun x q => by omega))) Z3 W3' ?_ hd3, fun _ => ⟨o3, F2.trans (f3.mono (fun x q => by omega)), Z3, by omega, by omega, hd3⟩⟩
    rw [v3, k4]
    have : (10 : Int) ^ (k + 1 + 1) = 10 ^ (k + 1) * 10 := Int.pow_succ _ _
    generalize (10 : Int) ^ (k + 1) = P at *
    omega
theorem Hs.out {S : Nat → Prop} {M M' : mM} {s n w : Nat} (h : Hs M s n w) (f : FI S M M') (h0 : ¬ S (s + 30)) (hs : ∀ y, S y → y < s + 68) (hw : w < 3) : Hs M' s n w := by
  obtain ⟨h1, h2⟩ := h
  unfold Hs
  rw [f.2.2.2.2.2.2 _ h0]
  refine ⟨h1, fun q => ?_⟩
  obtain ⟨x, X, v⟩ := h2 q
  exact ⟨x, X.out f (fun y q => by have := hs y q; omega), v⟩
theorem Sv.out {S : Nat → Prop} {M M' : mM} {s n : Nat} (h : Sv M s n) (f : FI S M M') (hs : ∀ y, S y → (s < y ∧ y < s + 22) ∨ (s + 42 ≤ y ∧ y ≤ s + 67) ∨ y < s ∨ s + 21067 < y) (hW : Wk M' s) : Sv M' s n := by
  have hn5 := h.n5
  obtain ⟨V, g, c, e, t, W, T, R, H, hc⟩ := h
  have sg : sameG M M' s := sameG.of f (fun q => by have := hs s q; omega) (fun y a b q => by have := hs y q; omega)
  have fe := f.2.2.2.2.2.2
  refine ⟨V.fi f, sg.gw g, sg.gb c, by rw [sg.1]; exact e, t.out sg (fe _ (fun q => by have := hs _ q; omega)), hW, fun i j hi hj => (T i j hi hj).out f (fun y q => by have := hs y q; unfold cel; omega), fun e he => (R e he).out f (fun y q => by have := hs y q; omega), fun w hw => ?_, fun q => (hc (by rw [← fe (s + 30) (fun q => by have := hs _ q; omega)]; exact q)).out sg (fe _ (fun q => by have := hs _ q; omega))⟩
  obtain ⟨h1, h2⟩ := H w hw
  unfold Hs
  rw [fe _ (fun q => by have := hs _ q; omega)]
  refine ⟨h1, fun q => ?_⟩
  obtain ⟨x, X, v⟩ := h2 q
  exact ⟨x, X.out2 f (fun i y hi q => by have := hs y q; omega), v⟩
theorem fv_top {M : mM} {f r : Nat} (hF : Fq M f r) (h0 : 0 ≤ fv M f) (h1 : fv M f ≤ 1) : wv M (f + 1) ≤ wv M (f + 3) := by
  have a := fv_abs hF h1 (by grind)
  rw [fv_wv hF h0] at a
  exact a.1
theorem p160 : (16777216 : Int) ^ 21 < 10 ^ 160 := by decide
section PR
variable {G : mG} {d s n k w : Nat} {M : mM}
/-- the fraction of state k for w -/
abbrev frc (s k w : Nat) : Nat := s + (68 + 5 * w) + 25 * k
theorem Sv.frac (h : Sv M s n) (hk : k < n) (hw : w < 3) (hh : mI M (s + 30) w ≠ 0) : okF M (frc s k w) ∧ mR M (s + 29) (3 * (k : Int) + (w : Int)).toNat = frc s k w := by
  have hn5 := h.n5
  obtain ⟨V, g, c, e, t, W, T, R, H, hc⟩ := h
  obtain ⟨h1, h2⟩ := H w hw
  obtain ⟨x, X, v⟩ := h2 (by omega)
  obtain ⟨x1, x2, x3⟩ := X k hk
  refine ⟨⟨x1, x2, by rw [x3]; exact (v k hk).1, by rw [x3]; exact (v k hk).2⟩, ?_⟩
  rw [show (3 * (k : Int) + (w : Int)).toNat = 3 * k + w by first | rfl | omega, V.f29 k w (by omega) hw]
  unfold frc
  omega
theorem okF.low {M : mM} {f : Nat} (h : okF M f) : wv M (f + 1) ≤ wv M (f + 3) ∧ mI M (f + 1) 1 ≤ 21 ∧ mI M (f + 3) 1 ≤ 21 ∧ wv M (f + 1) < 10 ^ 160 ∧ wv M (f + 3) < 10 ^ 160 := by
  obtain ⟨h1, h2, h3, h4⟩ := h
  have a := fv_top h1 h4 (smp_b h3).1
  have b := smp_size h1 h2 h3
  have c1 := h1.2.1.lt
  have c2 := h1.2.2.1.lt
  have d1 : (16777216 : Int) ^ (mI M (f + 1) 1).toNat ≤ 16777216 ^ 21 := pow_mono (by omega)
  have d2 : (16777216 : Int) ^ (mI M (f + 3) 1).toNat ≤ 16777216 ^ 21 := pow_mono (by omega)
  have := p160
  exact ⟨a, b.1, b.2, by omega, by omega⟩
theorem s_MS_isThere {l1 l2 : Int} (h1 : i32 l1) (h2 : i32 l2) (hO : mOk M) (h : Sv M s n) : Ci G y_MS_isThere d [vr s, vi l1, vi l2] M (fun r M' => M' = M ∧ (r = 0 ∨ r = 1) ∧ (r ≠ 0 ↔ (0 ≤ l1 ∧ l1 < n ∧ 0 ≤ l2 ∧ l2 ≤ 2 ∧ mI M (s + 30) l2.toNat ≠ 0))) := by
  obtain ⟨V, g, c, e, -⟩ := h
  refine k_MS_isThere hO h1 h2 ?_
  rw [V.r12, V.n30, e]
  refine ⟨fun _ => ⟨V.k0, fun _ _ _ => ⟨V.k30, by omega⟩⟩, fun v hv => ⟨rfl, by split at hv <;> omega, ?_⟩⟩
  by_cases q : l1 < 0 ∨ ((n : Int) ≤ l1 ∨ (l2 < 0 ∨ (2 < l2 ∨ mI M (s + 30) l2.toNat = 0)))
  · rw [if_pos q] at hv
    exact ⟨fun w => absurd hv w, fun w => by omega⟩
  · rw [if_neg q] at hv
    exact ⟨fun _ => by omega, fun _ => by omega⟩
theorem s_MS_compare {j w' : Nat} (hO : mOk M) (h : Sv M s n) (hk : k < n) (hw : w < 3) (hh : mI M (s + 30) w ≠ 0) (hj : j < n) (hw' : w' < 3) (hh' : mI M (s + 30) w' ≠ 0) : Ci G y_MS_compare (d + 3) [vr s, vi k, vi w, vi j, vi w'] M (fun r M' => mOk M' ∧ FI (vK s) M M' ∧ Sv M' s n ∧ -1 ≤ r ∧ r ≤ 1) := by
  have hn5 := h.n5
  obtain ⟨a1, a2⟩ := h.frac hk hw hh
  obtain ⟨b1, b2⟩ := h.frac hj hw' hh'
  have al := a1.low
  have bl := b1.low
  obtain ⟨V, g, c, e, t, W, -⟩ := id h
  refine k_MS_compare hO ⟨by omega, by omega⟩ ⟨by omega, by omega⟩ ⟨by omega, by omega⟩ ⟨by omega, by omega⟩ ?_
  rw [V.r11, V.n29, V.r0, a2, b2]
  refine ⟨V.k0, V.k29, by omega, by omega, W.1.1.1, (s_MU_compare (d := d) hO W.1 a1.1 b1.1 (by unfold suO frc; omega) (by unfold suO frc; omega) (by omega) (by omega)).mono (fun u M1 h1 => ?_)⟩
  obtain ⟨o1, f1, Z1, hu⟩ := h1
  have hu3 : u = -1 ∨ u = 0 ∨ u = 1 := by split at hu <;> (try split at hu) <;> omega
  exact ⟨⟨by omega, by omega⟩, o1, o1, f1.mono (fun y q => by omega), h.out f1 (fun y q => by omega) (W.out f1 Z1 (fun y q => by omega)), by omega, by omega⟩
end PR
end
section
/-! The solver: printing, telling, adopting, the next state. -/
section PR
variable {G : mG} {d s n k w : Nat} {M : mM}
abbrev syS (s o : Nat) : Nat → Prop := fun y => y = s + 12 ∨ y = s + 13 ∨ y = s + 67 ∨ y = o
theorem s_MS_say {a o ra p : Nat} (hO : mOk M) (h : Sv M s n) (hA : W3 M a ra) (oa : s + 67 < a) (z1 : mI M a 1 ≤ 900) (hv : wv M a < 10 ^ 160) (ho : mK M o = 30) (hp : p + 160 ≤ mN M o) (hp2 : p < 10000) (oo : o < s ∨ s + 21067 < o) :
    Ci G y_MS_say (d + 3) [vr s, vr a, vr o, vi p] M (fun r M' => mOk M' ∧ FI (syS s o) M M' ∧ Sv M' s n ∧ (p : Int) < r ∧ r ≤ (p : Int) + 160) := by
  obtain ⟨V, g, c, e, t, W, -⟩ := id h
  refine k_MS_say hO ⟨by omega, by omega⟩ ?_
  rw [V.r0, V.r31]
  refine ⟨V.k0, W.1.1.1, (s_digits2 (d := d) (D := 160) hO W.1 hA (by omega) z1 V.k67 (by rw [V.n67]; omega) (by omega) (by omega) hv (by omega)).mono (fun x M1 h1 => ?_)⟩
  obtain ⟨o1, f1, Z1, x0, x1, hd⟩ := h1
  have W1 : Wk M1 s := W.out f1 Z1 (fun y q => by omega)
  have S1 : Sv M1 s n := h.out f1 (fun y q => by omega) W1
  refine ⟨⟨by omega, by omega⟩, o1, ?_⟩
  suffices H : ∀ (c l : Nat) (M2 : mM), (l : Int) + c = x → mOk M2 → FI (fun y => y = o) M1 M2 → h_MS_say_17 G (d + 2) s o p x l M2 (fun r M' => mOk M' ∧ FI (syS s o) M M' ∧ Sv M' s n ∧ (p : Int) < r ∧ r ≤ (p : Int) + 160) from
    H x.toNat 0 M1 (by omega) o1 FI.refl
  intro c
  induction c with
  | zero =>
    intro l M2 hl o2 f2
    exact k_MS_say_17 o2 ⟨by omega, by omega⟩ ⟨by omega, by omega⟩ ⟨by omega, by omega⟩ ⟨fun _ => ⟨o2, (f1.mono (fun y q => by omega)).trans (f2.mono (fun y q => by omega)), S1.out f2 (fun y q => by omega) (W1.out f2 (W1.1.far f2 (fun y q => by omega)) (fun y q => by omega)), by omega, by omega⟩, fun q => by omega⟩
  | succ c ih =>
    intro l M2 hl o2 f2
    have V2 := S1.1.fi f2
    have n2 : mN M2 o = mN M o := by rw [f2.2.1, f1.2.1]
    have k2 : mK M2 o = 30 := by rw [f2.1, f1.1]; exact ho
    have hdl := hd (x - 1 - l).toNat (by omega)
    refine k_MS_say_17 o2 ⟨by omega, by omega⟩ ⟨by omega, by omega⟩ ⟨by omega, by omega⟩ ⟨fun q => by omega, fun _ => ?_⟩
    rw [V2.r31, V2.n67, n2, f2.2.2.2.2.2.2 (s + 67) (by omega)]
    refine ⟨V2.k0, V2.k67, by omega, k2, by omega, ⟨by omega, by omega⟩, fun M3 e3 => ?_⟩
    have f3 : FI (fun y => y = o) M2 M3 := by rw [e3]; exact FI.ui rfl
    have o3 : mOk M3 := by rw [e3]; exact mOk_UI o2 ⟨by omega, by omega⟩
    exact ih (l + 1) M3 (by omega) o3 (f2.trans f3)
theorem s_MS_print {o : Nat} (hO : mOk M) (h : Sv M s n) (hk : k < n) (hw : w < 3) (hh : mI M (s + 30) w ≠ 0) (ho : mK M o = 30) (hp : 400 ≤ mN M o) (oo : o < s ∨ s + 21067 < o) :
    Ci G y_MS_print (d + 4) [vr s, vi k, vi w, vr o] M (fun r M' => mOk M' ∧ FI (syS s o) M M' ∧ Sv M' s n ∧ 0 ≤ r ∧ r ≤ 321) := by
  have hn5 := h.n5
  obtain ⟨a1, a2⟩ := h.frac hk hw hh
  have al := a1.low
  obtain ⟨V, g, c, e, t, W, -⟩ := id h
  obtain ⟨F, -, -, -⟩ := id a1
  refine k_MS_print hO ⟨by omega, by omega⟩ ⟨by omega, by omega⟩ ?_
  rw [V.r11, V.n29, a2, F.1.2.1]
  refine ⟨V.k0, V.k29, by omega, F.1.1, (s_MS_say (d := d) (p := 0) hO h F.2.1 (by unfold frc; omega) (by omega) al.2.2.2.1 ho (by omega) (by omega) oo).mono (fun x M1 h1 => ?_)⟩
  obtain ⟨o1, f1, S1, x0, x1⟩ := h1
  have hs1 : ∀ y, syS s o y → y < frc s k w ∨ frc s k w + 4 < y := fun y q => by unfold frc; omega
  have F1 := F.out f1 hs1
  have a1' := a1.out f1 hs1
  have al1 := a1'.low
  rw [F1.1.1.2.2]
  refine ⟨⟨by omega, by omega⟩, o1, F1.1.1.1, F1.1.2.2.1.1.1, (s_MW_isOne o1 F1.1.2.2.1).mono (fun y M2 h2 => ?_)⟩
  obtain ⟨e2, hy⟩ := h2
  subst e2
  refine ⟨⟨by split at hy <;> omega, by split at hy <;> omega⟩, o1, fun _ => ⟨by rw [f1.1]; exact ho, by rw [f1.2.1]; omega, fun M3 e3 => ?_⟩, fun _ => ⟨o1, f1, S1, by omega, by omega⟩⟩
  have f3 : FI (fun y => y = o) M2 M3 := by rw [e3]; exact FI.ui rfl
  have o3 : mOk M3 := by rw [e3]; exact mOk_UI o1 ⟨by omega, by omega⟩
  have W1 := S1.2.2.2.2.2.1
  have S3 : Sv M3 s n := S1.out f3 (fun y q => by omega) (W1.out f3 (W1.1.far f3 (fun y q => by omega)) (fun y q => by omega))
  have hs3 : ∀ y, y = o → y < frc s k w ∨ frc s k w + 4 < y := fun y q => by unfold frc; omega
  have F3 := F1.1.out f3 hs3
  have al3 := (a1'.out f3 hs3).low
  rw [F3.1.1.2.2, show x + 1 = ((x + 1).toNat : Int) by first | rfl | omega]
  refine ⟨F3.1.1.1, S3.1.k0, (s_MS_say (d := d) (p := (x + 1).toNat) o3 S3 F3.1.2.2.1 (by unfold frc; omega) (by omega) al3.2.2.2.2 (by rw [f3.1, f1.1]; exact ho) (by rw [f3.2.1, f1.2.1]; omega) (by omega) oo).mono (fun z M4 h4 => ?_)⟩
  obtain ⟨o4, f4, S4, z0, z1⟩ := h4
  exact ⟨⟨by omega, by omega⟩, o4, o4, (f1.trans (f3.mono (fun y q => by omega))).trans f4, S4, by omega, by omega⟩
/-- only told commands have changed -/
theorem Sv.told {M' : mM} (h : Sv M s n) (f : FI (fun y => y = s + 32) M M') (ht : TW M' s) : Sv M' s n := by
  have hn5 := h.n5
  obtain ⟨V, g, c, e, t, W, T, R, H, hc⟩ := h
  have sg : sameG M M' s := sameG.of f (by omega) (fun y a b q => by omega)
  have fe := f.2.2.2.2.2.2
  exact ⟨V.fi f, sg.gw g, sg.gb c, by rw [sg.1]; exact e, ht, W.far f (fun y q => by omega), T.out f (fun y q => by omega), fun e he => (R e he).out f (fun y q => by omega), fun w hw => (H w hw).out f (by omega) (fun y q => by omega) hw, fun q => (hc (by rw [← fe (s + 30) (by omega)]; exact q)).out sg (fe _ (by omega))⟩
theorem s_MS_tell {i : Nat} (hO : mOk M) (h : Sv M s n) (hk : k < n) (hi : (i : Int) < mny M s k) : Cv G y_MS_tell d [vr s, vi k, vi i] M (fun M' => mOk M' ∧ FI (vK s) M M' ∧ Sv M' s n) := by
  have hn5 := h.n5
  obtain ⟨V, g, c, e, t, W, -⟩ := id h
  have h3 := g.2.2.1
  have hcm := g.cmd (i := k) (by omega)
  have hm0 : mny M s k ≤ 4200 := by unfold mny; omega
  refine k_MS_tell hO ⟨by omega, by omega⟩ ⟨by omega, by omega⟩ ?_
  rw [V.r14, V.n32, Int.toNat_natCast]
  refine ⟨V.k0, V.k32, by omega, fun M1 e1 => ?_⟩
  have f1 : FI (fun y => y = s + 32) M M1 := by rw [e1]; exact FI.ui rfl
  have o1 : mOk M1 := by rw [e1]; exact mOk_UI hO ⟨by omega, by omega⟩
  have sg : sameG M M1 s := sameG.of f1 (by omega) (fun y a b q => by omega)
  refine ⟨o1, f1.mono (fun y q => by omega), h.told f1 (fun j hj => ?_)⟩
  rw [sg.1] at hj
  rw [sg.hm, e1, mI_UI]
  by_cases z : j = k
  · rw [if_pos ⟨rfl, z⟩, z]
    exact ⟨by omega, fun _ => hi⟩
  · rw [if_neg (fun w => z w.2)]
    exact t j hj
theorem s_MS_adopt (hO : mOk M) (h : Sv M s n) (hh : mI M (s + 30) 0 = 1) : Cv G y_MS_adopt (d + 1) [vr s] M (fun M' => mOk M' ∧ FI (vK s) M M' ∧ Sv M' s n) := by
  have hn5 := h.n5
  obtain ⟨V, g, c, e, t, W, T, R, H, hc⟩ := id h
  have hc := hc hh
  refine k_MS_adopt hO ?_
  suffices Hh : ∀ (c k : Nat) (M2 : mM), k + c = n → mOk M2 → FI (fun y => y = s + 32) M M2 → TW M2 s → h_MS_adopt_2 G d s k M2 (fun M' => mOk M' ∧ FI (vK s) M M' ∧ Sv M' s n) from
    Hh n 0 M (by omega) hO FI.refl t
  intro c
  induction c with
  | zero =>
    intro k M2 hk o2 f2 t2
    have V2 := V.fi f2
    refine k_MS_adopt_2 o2 ⟨by omega, by omega⟩ ?_
    rw [f2.2.2.2.2.2.2 s (by omega), e]
    exact ⟨V2.k0, fun _ => ⟨o2, f2.mono (fun y q => by omega), h.told f2 t2⟩, fun q => by omega⟩
  | succ c ih =>
    intro k M2 hk o2 f2 t2
    have S2 := h.told f2 t2
    have V2 := V.fi f2
    have sg : sameG M M2 s := sameG.of f2 (by omega) (fun y a b q => by omega)
    have g2 := sg.gw g
    have h3 := g2.2.2.1
    have e2 : mI M2 s 1 = n := by rw [sg.1]; exact e
    have hcm := g2.cmd (i := k) (by omega)
    have hm0 : 0 ≤ mny M2 s k ∧ mny M2 s k ≤ 4200 := by unfold mny; omega
    refine k_MS_adopt_2 o2 ⟨by omega, by omega⟩ ?_
    rw [e2, V2.r14]
    refine ⟨V2.k0, fun q => by omega, fun _ => (s_MS_many o2 V2 g2 (by omega)).mono (fun y M3 h3' => ?_)⟩
    obtain ⟨e3, hy⟩ := h3'
    subst e3
    rw [V2.r15, V2.n33, V2.n32, Int.toNat_natCast, f2.2.2.2.2.2.2 (s + 33) (by omega)]
    refine ⟨⟨by omega, by omega⟩, o2, fun _ => ⟨V2.k0, V2.k33, by omega⟩, fun v hv => ?_⟩
    have hck := hc k (by omega)
    rw [← sg.hm] at hck
    have hv2 : 0 ≤ v ∧ (0 < mny M3 s k → v < mny M3 s k) ∧ v ≤ 4200 := by
      by_cases z : y = 0
      · rw [if_pos z] at hv
        omega
      · rw [if_neg z] at hv
        have := hck (by omega)
        omega
    refine ⟨V2.k32, by omega, ⟨by omega, by omega⟩, fun M4 e4 => ?_⟩
    have f4 : FI (fun y => y = s + 32) M3 M4 := by rw [e4]; exact FI.ui rfl
    have o4 : mOk M4 := by rw [e4]; exact mOk_UI o2 ⟨by omega, by omega⟩
    have sg4 : sameG M3 M4 s := sameG.of f4 (by omega) (fun y a b q => by omega)
    refine ih (k + 1) M4 (by omega) o4 (f2.trans f4) (fun j hj => ?_)
    rw [sg4.1] at hj
    rw [sg4.hm, e4, mI_UI]
    by_cases z : j = k
    · rw [if_pos ⟨rfl, z⟩, z]
      exact ⟨hv2.1, hv2.2.1⟩
    · rw [if_neg (fun w => z w.2)]
      exact t2 j hj
theorem s_MS_hasValues (hO : mOk M) (h : Sv M s n) : Ci G y_MS_hasValues d [vr s] M (fun r M' => M' = M ∧ (r = 0 ∨ r = 1) ∧ r = mI M (s + 30) 0) := by
  obtain ⟨V, g, c, e, t, W, T, R, H, hc⟩ := id h
  have a := (H 0 (by omega)).1
  refine k_MS_hasValues hO ?_
  rw [V.r12, V.n30]
  exact ⟨V.k0, V.k30, by omega, a, rfl, a, rfl⟩
end PR
end
