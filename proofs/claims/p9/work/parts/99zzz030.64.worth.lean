section
/-! What a command is worth: a sum over its branches. -/
theorem sr_lt {f g : Nat → Rat} : ∀ (n : Nat), (∀ j, j < n → f j ≤ g j) → (∃ j, j < n ∧ f j < g j) → sr f n < sr g n
  | 0, _, h => by obtain ⟨j, h, _⟩ := h; omega
  | n + 1, h, h2 => by
    obtain ⟨j, h3, h4⟩ := h2
    rw [sr, sr]
    by_cases q : j = n
    · subst q
      have a := sr_le j (fun i hi => h i (by omega))
      grind
    · have a := sr_lt n (fun i hi => h i (by omega)) ⟨j, by omega, h4⟩
      have b := h n (by omega)
      grind
/-- the chance of branch b -/
def chq (M : mM) (s b : Nat) : Rat := (mI M (s + 27) b : Rat) * (mI M (s + 28) b : Rat)⁻¹
/-- where the branches of command c begin, how many they are, where branch b leads -/
def bg (M : mM) (s c : Nat) : Nat := (mI M (s + 25) c).toNat
def nb (M : mM) (s c : Nat) : Nat := (mI M (s + 25) (c + 1) - mI M (s + 25) c).toNat
def tg (M : mM) (s b : Nat) : Nat := (mI M (s + 26) b).toNat
def cx (M : mM) (s k i : Nat) : Nat := (mI M (s + 23) k).toNat + i
def cw (M : mM) (s c : Nat) (f : Nat → Rat) : Rat := sr (fun b => chq M s (bg M s c + b) * f (tg M s (bg M s c + b))) (nb M s c)
/-- the chances of each command are sound -/
def GB (M : mM) (s : Nat) : Prop := ∀ c : Nat, (c : Int) < mI M s 2 → (1 ≤ mI M (s + 24) c ∧ mI M (s + 24) c < 1000000000 ∧ nb M s c ≤ 8) ∧ (∀ b, b < nb M s c → 0 < mI M (s + 27) (bg M s c + b) ∧ 0 < mI M (s + 28) (bg M s c + b) ∧ mI M (s + 28) (bg M s c + b) ∣ mI M (s + 24) c) ∧ sm (fun b => mI M (s + 27) (bg M s c + b) * (mI M (s + 24) c / mI M (s + 28) (bg M s c + b))) (nb M s c) = mI M (s + 24) c
/-- nothing of the game has changed -/
def sameG (M M' : mM) (s : Nat) : Prop := mI M' s 1 = mI M s 1 ∧ mI M' s 2 = mI M s 2 ∧ mI M' s 3 = mI M s 3 ∧ ∀ x, s + 22 ≤ x → x ≤ s + 28 → mI M' x = mI M x
theorem sameG.of {S : Nat → Prop} {M M' : mM} {s : Nat} (f : FI S M M') (h0 : ¬ S s) (h1 : ∀ x, s + 22 ≤ x → x ≤ s + 28 → ¬ S x) : sameG M M' s := by
  have f := f.2.2.2.2.2.2
  exact ⟨by rw [f s h0], by rw [f s h0], by rw [f s h0], fun x a b => f x (h1 x a b)⟩
theorem sameG.trans {M M' M'' : mM} {s : Nat} (h : sameG M M' s) (h' : sameG M' M'' s) : sameG M M'' s :=
  ⟨h'.1.trans h.1, h'.2.1.trans h.2.1, h'.2.2.1.trans h.2.2.1, fun x a b => (h'.2.2.2 x a b).trans (h.2.2.2 x a b)⟩
theorem sameG.refl {M : mM} {s : Nat} : sameG M M s := ⟨rfl, rfl, rfl, fun _ _ _ => rfl⟩
section SG
variable {M M' : mM} {s : Nat}
theorem sameG.gw (h : sameG M M' s) (g : GW M s) : GW M' s := by
  unfold GW at g ⊢
  rw [h.1, h.2.1, h.2.2.1, h.2.2.2 (s + 23) (by omega) (by omega), h.2.2.2 (s + 25) (by omega) (by omega), h.2.2.2 (s + 26) (by omega) (by omega)]
  exact g
theorem sameG.hq (h : sameG M M' s) : chq M' s = chq M s := by
  funext b
  unfold chq
  rw [h.2.2.2 (s + 27) (by omega) (by omega), h.2.2.2 (s + 28) (by omega) (by omega)]
theorem sameG.hb (h : sameG M M' s) : bg M' s = bg M s := by
  funext c
  unfold bg
  rw [h.2.2.2 (s + 25) (by omega) (by omega)]
theorem sameG.hn (h : sameG M M' s) : nb M' s = nb M s := by
  funext c
  unfold nb
  rw [h.2.2.2 (s + 25) (by omega) (by omega)]
theorem sameG.ht (h : sameG M M' s) : tg M' s = tg M s := by
  funext c
  unfold tg
  rw [h.2.2.2 (s + 26) (by omega) (by omega)]
theorem sameG.hx (h : sameG M M' s) : cx M' s = cx M s := by
  funext k i
  unfold cx
  rw [h.2.2.2 (s + 23) (by omega) (by omega)]
theorem sameG.hw (h : sameG M M' s) : cw M' s = cw M s := by
  funext c f
  unfold cw
  rw [h.hq, h.hb, h.hn, h.ht]
theorem sameG.gb (h : sameG M M' s) (g : GB M s) : GB M' s := by
  unfold GB at g ⊢
  rw [h.2.1, h.hn, h.hb, h.2.2.2 (s + 24) (by omega) (by omega), h.2.2.2 (s + 27) (by omega) (by omega), h.2.2.2 (s + 28) (by omega) (by omega)]
  exact g
theorem sameG.hm (h : sameG M M' s) : mny M' s = mny M s := by
  funext k
  unfold mny
  rw [h.2.2.2 (s + 23) (by omega) (by omega)]
end SG
section CW
variable {M : mM} {s c : Nat}
theorem GB.chq_pos (h : GB M s) (hc : (c : Int) < mI M s 2) {b : Nat} (hb : b < nb M s c) : 0 < chq M s (bg M s c + b) := by
  obtain ⟨h1, h2, -⟩ := (h c hc).2.1 b hb
  exact Rat.mul_pos (Rat.intCast_pos.2 h1) (Rat.inv_pos.2 (Rat.intCast_pos.2 h2))
theorem GB.chq_int (h : GB M s) (hc : (c : Int) < mI M s 2) {b : Nat} (hb : b < nb M s c) : (mI M (s + 24) c : Rat) * chq M s (bg M s c + b) = ((mI M (s + 27) (bg M s c + b) * (mI M (s + 24) c / mI M (s + 28) (bg M s c + b)) : Int) : Rat) := by
  obtain ⟨h1, h2, h3⟩ := (h c hc).2.1 b hb
  have e := Int.mul_ediv_cancel' h3
  have e2 : (mI M (s + 24) c : Rat) = (mI M (s + 28) (bg M s c + b) : Rat) * ((mI M (s + 24) c / mI M (s + 28) (bg M s c + b) : Int) : Rat) := by rw [← Rat.intCast_mul, e]
  have e3 := Rat.mul_inv_cancel _ (ic_ne h2)
  unfold chq
  rw [Rat.intCast_mul]
  generalize ((mI M (s + 24) c / mI M (s + 28) (bg M s c + b) : Int) : Rat) = z at *
  generalize (mI M (s + 28) (bg M s c + b) : Rat)⁻¹ = w at *
  generalize (mI M (s + 28) (bg M s c + b) : Rat) = v at *
  generalize (mI M (s + 27) (bg M s c + b) : Rat) = y at *
  rw [e2]
  grind
theorem cw_le (h : GB M s) (hc : (c : Int) < mI M s 2) {f g : Nat → Rat} (hf : ∀ b, b < nb M s c → f (tg M s (bg M s c + b)) ≤ g (tg M s (bg M s c + b))) : cw M s c f ≤ cw M s c g := by
  refine sr_le _ (fun b hb => ?_)
  have a := Rat.mul_nonneg (Rat.le_of_lt (h.chq_pos hc hb)) (b := g (tg M s (bg M s c + b)) - f (tg M s (bg M s c + b))) (by have := hf b hb; grind)
  grind
theorem cw_lt (h : GB M s) (hc : (c : Int) < mI M s 2) {f g : Nat → Rat} (hf : ∀ b, b < nb M s c → f (tg M s (bg M s c + b)) ≤ g (tg M s (bg M s c + b))) (hl : ∃ b, b < nb M s c ∧ f (tg M s (bg M s c + b)) < g (tg M s (bg M s c + b))) : cw M s c f < cw M s c g := by
  refine sr_lt _ (fun b hb => ?_) ?_
  · have a := Rat.mul_nonneg (Rat.le_of_lt (h.chq_pos hc hb)) (b := g (tg M s (bg M s c + b)) - f (tg M s (bg M s c + b))) (by have := hf b hb; grind)
    grind
  · obtain ⟨b, hb, hl⟩ := hl
    have a := Rat.mul_pos (h.chq_pos hc hb) (b := g (tg M s (bg M s c + b)) - f (tg M s (bg M s c + b))) (by grind)
    exact ⟨b, hb, by grind⟩
theorem cw_congr {f g : Nat → Rat} (hf : ∀ b, b < nb M s c → f (tg M s (bg M s c + b)) = g (tg M s (bg M s c + b))) : cw M s c f = cw M s c g := by
  refine sr_congr _ (fun b hb => ?_)
  rw [hf b hb]
theorem cw_add {f g : Nat → Rat} : cw M s c (fun k => f k + g k) = cw M s c f + cw M s c g := by
  unfold cw
  rw [← sr_add]
  exact sr_congr _ (fun b hb => by grind)
theorem cw_mul {x : Rat} {f : Nat → Rat} : cw M s c (fun k => x * f k) = x * cw M s c f := by
  unfold cw
  rw [← sr_mul]
  exact sr_congr _ (fun b hb => by grind)
theorem cw_int (h : GB M s) (hc : (c : Int) < mI M s 2) {f : Nat → Int} : (mI M (s + 24) c : Rat) * cw M s c (fun k => (f k : Rat)) = ((sm (fun b => mI M (s + 27) (bg M s c + b) * (mI M (s + 24) c / mI M (s + 28) (bg M s c + b)) * f (tg M s (bg M s c + b))) (nb M s c) : Int) : Rat) := by
  unfold cw
  rw [sm_cast, ← sr_mul]
  refine sr_congr _ (fun b hb => ?_)
  have e := h.chq_int hc hb
  rw [Rat.intCast_mul, ← e]
  grind
theorem cw_one (h : GB M s) (hc : (c : Int) < mI M s 2) : cw M s c (fun _ => 1) = 1 := by
  have e := cw_int h hc (f := fun _ => 1)
  have e2 : sm (fun b => mI M (s + 27) (bg M s c + b) * (mI M (s + 24) c / mI M (s + 28) (bg M s c + b)) * 1) (nb M s c) = mI M (s + 24) c := by
    rw [sm_congr (g := fun b => mI M (s + 27) (bg M s c + b) * (mI M (s + 24) c / mI M (s + 28) (bg M s c + b))) _ (fun b hb => by omega)]
    exact (h c hc).2.2
  have e1 : cw M s c (fun _ => 1) = cw M s c (fun k => (((fun _ => 1) k : Int) : Rat)) := rfl
  rw [e2] at e
  rw [e1]
  have hp := (h c hc).1.1
  have e3 := Rat.inv_mul_cancel _ (ic_ne (x := mI M (s + 24) c) (by omega))
  generalize (mI M (s + 24) c : Rat) = v at *
  generalize cw M s c (fun k => (((fun _ => 1) k : Int) : Rat)) = w at *
  have e4 : v⁻¹ * (v * w) = v⁻¹ * v := by rw [e]
  grind
theorem cw_const (h : GB M s) (hc : (c : Int) < mI M s 2) {x : Rat} : cw M s c (fun _ => x) = x := by
  have e := cw_mul (M := M) (s := s) (c := c) (x := x) (f := fun _ => 1)
  rw [cw_one h hc] at e
  have e1 : cw M s c (fun _ => x) = cw M s c (fun _ => x * 1) := cw_congr (fun b hb => by grind)
  rw [e1, e]
  grind
end CW
/-- a value that k parts hold -/
def Smp (k : Nat) (x : Rat) : Prop := ∃ E z : Int, 0 < E ∧ E < 16777216 ^ k ∧ x * (E : Rat) = (z : Rat) ∧ x ≤ 1 ∧ -1 ≤ x
theorem smp_size {M : mM} {f r k : Nat} (hF : Fq M f r) (hC : Fc M f) (h : Smp k (fv M f)) : mI M (f + 1) 1 ≤ k ∧ mI M (f + 3) 1 ≤ k := by
  obtain ⟨E, z, h0, h1, h2, h3, h4⟩ := h
  have b := fv_abs hF h3 h4
  exact fc_size hF hC h2 h0 h1 b.1 b.2
theorem smp_fq {M : mM} {f : Nat} (hF : Fq M f 56) (h1 : fv M f ≤ 1) (h2 : -1 ≤ fv M f) : Smp 56 (fv M f) := by
  have p : 0 < sd M f := hF.2.2.2.2
  refine ⟨sd M f, sn M f, p, ?_, fv_sd hF, h1, h2⟩
  exact Int.lt_of_lt_of_le hF.2.2.1.lt (pow_mono (by have := hF.2.2.1.1.2.2.2.2.2.2; omega))
theorem smp_mul {x : Rat} {k : Nat} {u v : Int} (h : Smp k x) (h1 : 0 ≤ u) (h2 : u ≤ v) (h3 : 0 < v) (h4 : v < 1000000000) : Smp (k + 2) ((u : Rat) * (v : Rat)⁻¹ * x) := by
  obtain ⟨E, z, e0, e1, e2, e3, e4⟩ := h
  have hv : (0 : Rat) < (v : Rat) := Rat.intCast_pos.2 h3
  have hi := Rat.mul_inv_cancel _ (ic_ne h3)
  have hi0 : (0 : Rat) < (v : Rat)⁻¹ := Rat.inv_pos.2 hv
  have c0 : (0 : Rat) ≤ (u : Rat) := by exact_mod_cast h1
  have c1 : (u : Rat) ≤ (v : Rat) := by exact_mod_cast h2
  have b1 : (u : Rat) * (v : Rat)⁻¹ ≤ 1 := by
    have a := Rat.mul_nonneg (a := (v : Rat) - (u : Rat)) (by grind) (Rat.le_of_lt hi0)
    grind
  have b2 : 0 ≤ (u : Rat) * (v : Rat)⁻¹ := Rat.mul_nonneg c0 (Rat.le_of_lt hi0)
  have b3 := abs_mul1 b1 (by grind) e3 e4
  refine ⟨v * E, u * z, Int.mul_pos h3 e0, ?_, ?_, b3.1, b3.2⟩
  · rw [show (16777216 : Int) ^ (k + 2) = 16777216 ^ 2 * 16777216 ^ k by rw [Int.pow_add, Int.mul_comm]]
    exact mul_lt_B (by omega) e1 (by omega) (by omega)
  · rw [Rat.intCast_mul, Rat.intCast_mul, ← e2]
    grind
theorem smp_add {x y : Rat} {k l : Nat} (h : Smp k x) (h' : Smp l y) (h1 : x + y ≤ 1) (h2 : -1 ≤ x + y) : Smp (k + l) (x + y) := by
  obtain ⟨E, z, e0, e1, e2, e3, e4⟩ := h
  obtain ⟨E', z', e0', e1', e2', e3', e4'⟩ := h'
  refine ⟨E * E', z * E' + z' * E, Int.mul_pos e0 e0', ?_, ?_, h1, h2⟩
  · rw [Int.pow_add]
    exact mul_lt_B e1 e1' (by omega) (by omega)
  · rw [Rat.intCast_mul, Rat.intCast_add, Rat.intCast_mul, Rat.intCast_mul, ← e2, ← e2']
    grind
end
section
/-! The solver: what a command is worth. -/
theorem sr_part {f : Nat → Rat} {a : Nat} : ∀ (n : Nat), (∀ c, c < a + n → 0 ≤ f c) → sr f a ≤ sr f (a + n)
  | 0, _ => Rat.le_refl
  | n + 1, h => by
    have h1 := sr_part (f := f) (a := a) n (fun c hc => h c (by omega))
    have h2 := h (a + n) (by omega)
    have e : sr f (a + (n + 1)) = sr f (a + n) + f (a + n) := rfl
    grind
theorem fc_one {M : mM} {f r : Nat} (hF : Fq M f r) (h1 : sd M f = 1) (h2 : sn M f = 0 → mI M f 2 = 0) : Fc M f := by
  have e4 : xn M (f + 3) = 1 := by
    have : sd M f = wv M (f + 3) := rfl
    unfold xn
    omega
  refine ⟨by rw [e4]; exact Nat.gcd_one_right _, fun q => h2 ?_⟩
  unfold sn
  rw [q]
  split <;> rfl
theorem alg_ud {U V y : Rat} (q : V * y = 1) (w : 0 ≤ (1 - U * y) * V) : U ≤ V := by
  have e : (1 - U * y) * V = V - U * (V * y) := by grind
  rw [e, q] at w
  grind
theorem ud_le {u v : Int} (h : 0 < v) (h2 : (u : Rat) * (v : Rat)⁻¹ ≤ 1) : u ≤ v := by
  have p : (0 : Rat) < (v : Rat) := Rat.intCast_pos.2 h
  have q := Rat.mul_inv_cancel _ (ic_ne h)
  have w := Rat.mul_nonneg (a := 1 - (u : Rat) * (v : Rat)⁻¹) (by grind) (Rat.le_of_lt p)
  exact ic_le (alg_ud q w)
/-- n fractions hold x -/
def Xt (M : mM) (s e n : Nat) (x : Nat → Rat) : Prop := ∀ k, k < n → Fq M (s + e + 25 * k) 56 ∧ Fc M (s + e + 25 * k) ∧ fv M (s + e + 25 * k) = x k
theorem Xt.out {S : Nat → Prop} {M M' : mM} {s e n : Nat} {x : Nat → Rat} (h : Xt M s e n x) (k : FI S M M') (hs : ∀ y, S y → y < s + e ∨ s + e + 25 * n ≤ y) : Xt M' s e n x := by
  intro i hi
  obtain ⟨h1, h2, h3⟩ := h i hi
  have hs' : ∀ y, S y → y < s + e + 25 * i ∨ s + e + 25 * i + 4 < y := fun y q => by have := hs y q; omega
  exact ⟨(h1.out k hs').1, h2.out h1 k hs', by rw [fv_out h1 k hs', h3]⟩
abbrev wS (s : Nat) : Nat → Prop := fun x => (s + 2 ≤ x ∧ x ≤ s + 21) ∨ (s + 42 ≤ x ∧ x ≤ s + 46) ∨ (s + 52 ≤ x ∧ x ≤ s + 61)
theorem Wk.far {S : Nat → Prop} {M M' : mM} {s : Nat} (h : Wk M s) (k : FI S M M') (hs : ∀ x, S x → s + 22 ≤ x ∧ x < s + 42 ∨ s + 66 < x ∨ x ≤ s) : Wk M' s :=
  h.out k (h.1.far k (fun x q => by have := hs x q; omega)) (fun x q => by have := hs x q; omega)
/-- one of the solver's fractions is written -/
theorem Wk.put {M M' : mM} {s a r : Nat} (h : Wk M s) (k : FI (fS a) M M') (hf : Ft M' a r) (ha : (a = s + 42 ∧ r = 8) ∨ (a = s + 47 ∧ r = 56) ∨ ((a = s + 52 ∨ a = s + 57 ∨ a = s + 62) ∧ r = 900)) : Wk M' s := by
  have hk : ∀ y, fS a y → a ≤ y ∧ y ≤ a + 4 := fun y q => q
  have h0 := h.1.far k (fun x q => by have := hk x q; omega)
  obtain ⟨-, h1, h2, h3, h4, h5⟩ := h
  rcases ha with ⟨ha, hr⟩ | ⟨ha, hr⟩ | ⟨ha | ha | ha, hr⟩ <;> subst ha hr
  · exact ⟨h0, hf, h2.out k (fun x q => by have := hk x q; omega), h3.out k (fun x q => by have := hk x q; omega), h4.out k (fun x q => by have := hk x q; omega), h5.out k (fun x q => by have := hk x q; omega)⟩
  · exact ⟨h0, h1.out k (fun x q => by have := hk x q; omega), hf, h3.out k (fun x q => by have := hk x q; omega), h4.out k (fun x q => by have := hk x q; omega), h5.out k (fun x q => by have := hk x q; omega)⟩
  · exact ⟨h0, h1.out k (fun x q => by have := hk x q; omega), h2.out k (fun x q => by have := hk x q; omega), hf, h4.out k (fun x q => by have := hk x q; omega), h5.out k (fun x q => by have := hk x q; omega)⟩
  · exact ⟨h0, h1.out k (fun x q => by have := hk x q; omega), h2.out k (fun x q => by have := hk x q; omega), h3.out k (fun x q => by have := hk x q; omega), hf, h5.out k (fun x q => by have := hk x q; omega)⟩
  · exact ⟨h0, h1.out k (fun x q => by have := hk x q; omega), h2.out k (fun x q => by have := hk x q; omega), h3.out k (fun x q => by have := hk x q; omega), h4.out k (fun x q => by have := hk x q; omega), hf⟩
/-- what worthOf leaves behind -/
def woG (p : Nat) (M : mM) (s c : Nat) (x : Nat → Rat) (M' : mM) : Prop := mOk M' ∧ FI (wS s) M M' ∧ Wk M' s ∧ Fq M' (s + 52) 900 ∧ Fc M' (s + 52) ∧ fv M' (s + 52) = cw M s c x ∧ Smp ((p + 2) * 8 + 1) (cw M s c x)
abbrev woQ (M : mM) (s c : Nat) (x : Nat → Rat) : mM → Prop := woG 56 M s c x
section VS
variable {G : mG} {d s n : Nat} {M : mM} {x : Nat → Rat}
theorem s_worthG {k i B st e p : Nat} (hp : p ≤ 56) (hxs : ∀ t, t < n → Smp p (x t)) (hB : (B = s + 38 ∧ st = 1 ∧ e = 88) ∨ (B = s + 29 ∧ st = 3 ∧ e = 68)) (hO : mOk M) (hV : Vk M s) (hG : GW M s) (hC : GB M s) (hn : mI M s 1 = n) (hk : (k : Int) < mI M s 1) (hi : (i : Int) < mny M s k) (hW : Wk M s) (hX : Xt M s e n x) (h01 : ∀ t, t < n → 0 ≤ x t ∧ x t ≤ 1) :
    Cv G y_MS_worthOf (d + 5) [vr s, vi k, vi i, vr B, vi 0, vi st] M (woG p M s (cx M s k i) x) := by
  have hc := hG.cmd hk
  have hi' := hi
  unfold mny at hi'
  have hcx : (cx M s k i : Int) = mI M (s + 23) k + i := by unfold cx; omega
  have hc2 : (cx M s k i : Int) < mI M s 2 := by omega
  have hb := hG.brn hc2
  have h2 := hG.2.1
  have h3 := hG.2.2.1
  have h4 := hG.2.2.2.1
  have ht := hG.2.2.2.2.2.2.2.2.2.2
  have ebg : (bg M s (cx M s k i) : Int) = mI M (s + 25) (cx M s k i) := by unfold bg; omega
  have enb : (nb M s (cx M s k i) : Int) = mI M (s + 25) (cx M s k i + 1) - mI M (s + 25) (cx M s k i) := by unfold nb; omega
  have hn8 := (hC _ hc2).1.2.2
  have hm := (hC _ hc2).1.2.1
  have hm1 := (hC _ hc2).1.1
  have hbr := (hC _ hc2).2.1
  generalize hcc : cx M s k i = c at *
  have htg : ∀ b, b < nb M s c → tg M s (bg M s c + b) < n ∧ (tg M s (bg M s c + b) : Int) = mI M (s + 26) (bg M s c + b) := fun b hb => by
    have := ht (bg M s c + b) (by omega)
    unfold tg
    omega
  have hle : cw M s c x ≤ 1 := by
    have a := cw_le hC hc2 (f := x) (g := fun _ => 1) (fun b hb => (h01 _ (htg b hb).1).2)
    rw [cw_one hC hc2] at a
    exact a
  have hnn : ∀ b, b < nb M s c → 0 ≤ chq M s (bg M s c + b) * x (tg M s (bg M s c + b)) := fun b hb => Rat.mul_nonneg (Rat.le_of_lt (hC.chq_pos hc2 hb)) (h01 _ (htg b hb).1).1
  have hpart : ∀ b, b ≤ nb M s c → 0 ≤ sr (fun b => chq M s (bg M s c + b) * x (tg M s (bg M s c + b))) b ∧ sr (fun b => chq M s (bg M s c + b) * x (tg M s (bg M s c + b))) b ≤ 1 := fun b hb => by
    refine ⟨sr_nonneg b (fun j hj => hnn j (by omega)), ?_⟩
    have a := sr_part (f := fun b => chq M s (bg M s c + b) * x (tg M s (bg M s c + b))) (a := b) (nb M s c - b) (fun j hj => hnn j (by omega))
    rw [show b + (nb M s c - b) = nb M s c by omega] at a
    exact Rat.le_trans a hle
  refine k_MS_worthOf hO ⟨by omega, by omega⟩ ⟨by omega, by omega⟩ ⟨by omega, by omega⟩ ⟨by omega, by omega⟩ ?_
  rw [hV.r5, hV.n23, hV.r28, Int.toNat_natCast, ← hcx]
  refine ⟨hV.k0, hV.k23, by omega, hW.2.2.2.1.1.1, (s_MF_set ⟨by omega, by omega⟩ (by omega) ⟨by omega, by omega⟩ (by omega) hO hW.2.2.2.1 (by omega)).mono (fun M1 h1 => ?_)⟩
  obtain ⟨o1, f1, F1, v1, v2, v3⟩ := h1
  have f1' : FI (wS s) M M1 := f1.mono (fun y q => by have : s + 52 ≤ y ∧ y ≤ s + 52 + 4 := q; omega)
  have V1 := hV.fi f1
  have G1 : sameG M M1 s := sameG.of f1' (by omega) (fun y _ _ => by omega)
  have W1 : Wk M1 s := hW.put f1 F1.ft (by omega)
  have C1 := fc_one F1 v2 (fun _ => v3 rfl)
  have e1 : fv M1 (s + 52) = 0 := by
    rw [fv_set v1 v2]
    have : ((0 : Int) : Rat) = 0 := rfl
    grind
  rw [V1.r7, V1.n25, Int.toNat_natCast, G1.2.2.2 (s + 25) (by omega) (by omega)]
  refine ⟨o1, V1.k0, V1.k25, by omega, ?_⟩
  have X1 := hX.out f1' (fun y q => by omega)
  suffices H : ∀ (r b : Nat) (M2 : mM), b + r = nb M s c → mOk M2 → FI (wS s) M M2 → Wk M2 s → Fq M2 (s + 52) 900 → Fc M2 (s + 52) → fv M2 (s + 52) = sr (fun b => chq M s (bg M s c + b) * x (tg M s (bg M s c + b))) b → Smp ((p + 2) * b + 1) (fv M2 (s + 52)) → h_MS_worthOf_28 G (d + 4) s B 0 st c (mI M (s + 25) c + b) M2 (woG p M s c x) by
    have a := H (nb M s c) 0 M1 (by omega) o1 f1' W1 F1 C1 e1 ⟨1, 0, by omega, by rw [Nat.mul_zero]; decide, by rw [e1]; grind, by rw [e1]; decide, by rw [e1]; decide⟩
    rw [show mI M (s + 25) c + ((0 : Nat) : Int) = mI M (s + 25) c by omega] at a
    exact a
  clear e1 C1 W1 G1 V1 f1' v3 v2 v1 F1 f1 o1 X1 M1
  intro r
  induction r with
  | zero =>
    intro b M2 hr o2 f2 W2 F2 C2 e2 S2
    have V2 := hV.fi f2
    have G2 : sameG M M2 s := sameG.of f2 (by omega) (fun y _ _ => by omega)
    have eb : b = nb M s c := by omega
    subst eb
    refine k_MS_worthOf_28 o2 ⟨by omega, by omega⟩ ⟨by omega, by omega⟩ ⟨by omega, by omega⟩ ⟨by omega, by omega⟩ ?_
    rw [V2.r7, V2.n25, G2.2.2.2 (s + 25) (by omega) (by omega), show ((c : Int) + 1).toNat = c + 1 by omega]
    refine ⟨V2.k0, V2.k25, by omega, fun _ => ⟨o2, f2, W2, F2, C2, e2, ?_⟩, fun q => by omega⟩
    have e3 : fv M2 (s + 52) = cw M s c x := e2
    rw [e3] at S2
    obtain ⟨E, z, a0, a1, a2⟩ := S2
    exact ⟨E, z, a0, Int.lt_of_lt_of_le a1 (pow_mono (Nat.add_le_add_right (Nat.mul_le_mul_left _ hn8) 1)), a2⟩
  | succ r ih =>
    intro b M2 hr o2 f2 W2 F2 C2 e2 S2
    have hbn : b < nb M s c := by omega
    have V2 := hV.fi f2
    have G2 : sameG M M2 s := sameG.of f2 (by omega) (fun y _ _ => by omega)
    have X2 := hX.out f2 (fun y q => by omega)
    obtain ⟨u0, u1, u2⟩ := hbr b hbn
    have u3 : mI M (s + 28) (bg M s c + b) ≤ mI M (s + 24) c := Int.le_of_dvd (by omega) u2
    have u4 : mI M (s + 27) (bg M s c + b) ≤ mI M (s + 28) (bg M s c + b) := by
      have a := sr_one (f := fun b => chq M s (bg M s c + b) * (fun _ => 1) (tg M s (bg M s c + b))) (nb M s c) hbn (fun j hj => Rat.mul_nonneg (Rat.le_of_lt (hC.chq_pos hc2 hj)) (by grind))
      have a1 := cw_one hC hc2
      unfold cw at a1
      rw [a1] at a
      have a2 : chq M s (bg M s c + b) ≤ 1 := by
        have a3 : chq M s (bg M s c + b) * 1 ≤ 1 := a
        rw [Rat.mul_one] at a3
        exact a3
      exact ud_le u1 a2
    have ebb : (mI M (s + 25) c + (b : Int)).toNat = bg M s c + b := by omega
    obtain ⟨t1, t2⟩ := htg b hbn
    refine k_MS_worthOf_28 o2 ⟨by omega, by omega⟩ ⟨by omega, by omega⟩ ⟨by omega, by omega⟩ ⟨by omega, by omega⟩ ?_
    rw [V2.r7, V2.r9, V2.r10, V2.r26, V2.n25, V2.n27, V2.n28, G2.2.2.2 (s + 25) (by omega) (by omega), G2.2.2.2 (s + 27) (by omega) (by omega), G2.2.2.2 (s + 28) (by omega) (by omega), show ((c : Int) + 1).toNat = c + 1 by omega, ebb]
    refine ⟨V2.k0, V2.k25, by omega, fun q => by omega, fun _ => ⟨V2.k27, by omega, V2.k28, by omega, W2.2.1.1.1, (s_MF_set ⟨by omega, by omega⟩ (by omega) ⟨by omega, by omega⟩ (by omega) o2 W2.2.1 (by omega)).mono (fun M3 h3 => ?_)⟩⟩
    obtain ⟨o3, f3, F3, v1, v2, -⟩ := h3
    have f3' : FI (wS s) M2 M3 := f3.mono (fun y q => by have : s + 42 ≤ y ∧ y ≤ s + 42 + 4 := q; omega)
    have V3 := V2.fi f3
    have G3 : sameG M M3 s := sameG.of (f2.trans f3') (by omega) (fun y _ _ => by omega)
    have W3' : Wk M3 s := W2.put f3 F3.ft (by omega)
    have X3 := X2.out f3' (fun y q => by omega)
    have x3 := X3 _ t1
    have hBk : mK M3 B = 36 ∧ ((0 : Int) ≤ (st : Int) * mI M (s + 26) (bg M s c + b) + 0 ∧ (st : Int) * mI M (s + 26) (bg M s c + b) + 0 < (mN M3 B : Int)) ∧ mR M3 B ((st : Int) * mI M (s + 26) (bg M s c + b) + 0).toNat = s + e + 25 * tg M s (bg M s c + b) := by
      rw [← t2]
      rcases hB with ⟨b1, b2, b3⟩ | ⟨b1, b2, b3⟩ <;> subst b1 b2 b3
      · rw [show ((((1 : Nat) : Int)) * (tg M s (bg M s c + b) : Int) + 0).toNat = tg M s (bg M s c + b) by omega, V3.f38 _ (by omega), V3.n38]
        exact ⟨V3.k38, by omega, rfl⟩
      · rw [show ((((3 : Nat) : Int)) * (tg M s (bg M s c + b) : Int) + 0).toNat = 3 * tg M s (bg M s c + b) + 0 by omega, V3.f29 _ 0 (by omega) (by omega), V3.n29]
        exact ⟨V3.k29, by omega, by omega⟩
    rw [V3.r8, V3.r0, V3.r26, V3.n26, G3.2.2.2 (s + 26) (by omega) (by omega), hBk.2.2]
    have z1 := F3.2.1.1.2.2.2.2.2.2
    have z2 := F3.2.2.1.1.2.2.2.2.2.2
    have z3 := x3.1.2.1.1.2.2.2.2.2.2
    have z4 := x3.1.2.2.1.1.2.2.2.2.2.2
    refine ⟨o3, V3.k0, V3.k26, by omega, hBk.1, hBk.2.1, W3'.1.1.1, (s_MU_multiply (d := d) o3 W3'.1 F3 x3.1 (by unfold suO; omega) (by unfold suO; omega) (by omega) (by omega)).mono (fun M4 h4 => ?_)⟩
    have v4 := fv_mul F3 x3.1 h4
    rw [x3.2.2, fv_set v1 v2] at v4
    have hs4 : Smp (p + 2) (fv M4 (s + 1 + 1)) := by
      rw [v4]
      exact smp_mul (hxs _ t1) (by omega) (by omega) (by omega) (by omega)
    have hpb : (p + 2) * b ≤ 464 := Nat.le_trans (Nat.mul_le_mul_left _ (show b ≤ 8 by omega)) (by omega)
    have hpb1 : (p + 2) * (b + 1) = (p + 2) * b + (p + 2) := Nat.mul_succ _ _
    obtain ⟨o4, f4, Z4, F4, C4, -⟩ := h4
    have f4' : FI (fun y => s + 2 ≤ y ∧ y ≤ s + 21) M3 M4 := f4.mono (fun y q => by omega)
    have V4 := V3.fi f4
    have W4 : Wk M4 s := W3'.out f4' Z4 (fun y q => by omega)
    have sz4 := smp_size F4 C4 hs4
    rw [V4.r0, V4.r29, Z4.1.2.1]
    refine ⟨o4, V4.k0, Z4.1.1, W4.2.2.2.2.1.1.1, (s_MF_copy o4 W4.2.2.2.2.1 F4 (by omega) (by omega) (by omega)).mono (fun M5 h5 => ?_)⟩
    obtain ⟨o5, f5, F5, w4, w5, w6⟩ := h5
    have f5' : FI (fun y => s + 57 ≤ y ∧ y ≤ s + 61) M4 M5 := f5.mono (fun y q => by have : s + 57 ≤ y ∧ y ≤ s + 57 + 4 := q; omega)
    have C5 := fc_copy C4 w4 w5 w6
    have V5 := V4.fi f5
    have W5 : Wk M5 s := W4.put f5 F5.ft (by omega)
    have k52 : ∀ y, fS (s + 42) y → y < s + 52 ∨ s + 52 + 4 < y := fun y q => by have : s + 42 ≤ y ∧ y ≤ s + 42 + 4 := q; omega
    have a1 := F2.out f3 k52
    have a2 := C2.out F2 f3 k52
    have a3 := fv_out F2 f3 k52
    have b1 := a1.1.out f4' (fun y q => by omega)
    have b2 := a2.out a1.1 f4' (fun y q => by omega)
    have b3 := fv_out a1.1 f4' (fun y q => by omega)
    have c1 := b1.1.out f5' (fun y q => by omega)
    have c2 := b2.out b1.1 f5' (fun y q => by omega)
    have c3 := fv_out b1.1 f5' (fun y q => by omega)
    have e5 : fv M5 (s + 52) = fv M2 (s + 52) := by rw [c3, b3, a3]
    rw [← e5] at S2 e2
    have sz5 := smp_size c1.1 c2 S2
    have sz6 := smp_size F5 C5.1 (by rw [C5.2]; exact hs4)
    rw [V5.r0, V5.r28, V5.r29]
    refine ⟨o5, V5.k0, W5.1.1.1, (s_MU_add (d := d) (Or.inl rfl) o5 W5.1 c1.1 F5 (by unfold suO; omega) (by unfold suO; omega) (by omega) (by omega) (by omega)).mono (fun M6 h6 => ?_)⟩
    have v6 := fv_add (Or.inl rfl) c1.1 F5 h6
    rw [if_neg (by omega), C5.2, v4] at v6
    have hv6 : fv M6 (s + 1 + 1) = sr (fun b => chq M s (bg M s c + b) * x (tg M s (bg M s c + b))) (b + 1) := by
      rw [v6, e2, sr]
      rfl
    have hs6 : Smp ((p + 2) * (b + 1) + 1) (fv M6 (s + 1 + 1)) := by
      have a := hpart (b + 1) (by omega)
      have b' := smp_add S2 (by rw [v4] at hs4; exact hs4) (by rw [← v6, hv6]; exact a.2) (by rw [← v6, hv6]; grind)
      rw [v6]
      obtain ⟨E, z, q0, q1, q2⟩ := b'
      exact ⟨E, z, q0, Int.lt_of_lt_of_le q1 (pow_mono (by omega)), q2⟩
    obtain ⟨o6, f6, Z6, F6, C6, -⟩ := h6
    have f6' : FI (fun y => s + 2 ≤ y ∧ y ≤ s + 21) M5 M6 := f6.mono (fun y q => by omega)
    have V6 := V5.fi f6
    have W6 : Wk M6 s := W5.out f6' Z6 (fun y q => by omega)
    have sz7 := smp_size F6 C6 hs6
    rw [V6.r0, V6.r28, Z6.1.2.1]
    refine ⟨o6, V6.k0, Z6.1.1, W6.2.2.2.1.1.1, (s_MF_copy o6 W6.2.2.2.1 F6 (by omega) (by omega) (by omega)).mono (fun M7 h7 => ?_)⟩
    obtain ⟨o7, f7, F7, y4, y5, y6⟩ := h7
    have f7' : FI (fun y => s + 52 ≤ y ∧ y ≤ s + 56) M6 M7 := f7.mono (fun y q => by have : s + 52 ≤ y ∧ y ≤ s + 52 + 4 := q; omega)
    have C7 := fc_copy C6 y4 y5 y6
    have ff : FI (wS s) M2 M7 := (((f3'.trans (f4'.mono (fun y q => by omega))).trans (f5'.mono (fun y q => by omega))).trans (f6'.mono (fun y q => by omega))).trans (f7'.mono (fun y q => by omega))
    have hlast := ih (b + 1) M7 (by omega) o7 (f2.trans ff) (W6.put f7 F7.ft (by omega)) F7 C7.1 (by rw [C7.2, hv6]) (by rw [C7.2]; exact hs6)
    rw [show mI M (s + 25) c + ((b + 1 : Nat) : Int) = mI M (s + 25) c + (b : Int) + 1 by omega] at hlast
    exact ⟨o7, hlast⟩
theorem s_MS_worthOf {k i B st e : Nat} (hB : (B = s + 38 ∧ st = 1 ∧ e = 88) ∨ (B = s + 29 ∧ st = 3 ∧ e = 68)) (hO : mOk M) (hV : Vk M s) (hG : GW M s) (hC : GB M s) (hn : mI M s 1 = n) (hk : (k : Int) < mI M s 1) (hi : (i : Int) < mny M s k) (hW : Wk M s) (hX : Xt M s e n x) (h01 : ∀ t, t < n → 0 ≤ x t ∧ x t ≤ 1) :
    Cv G y_MS_worthOf (d + 5) [vr s, vi k, vi i, vr B, vi 0, vi st] M (woQ M s (cx M s k i) x) := by
  refine s_worthG (p := 56) (by omega) (fun t ht => ?_) hB hO hV hG hC hn hk hi hW hX h01
  obtain ⟨x1, x2, x3⟩ := hX t ht
  have a := h01 t ht
  have b := smp_fq x1 (by rw [x3]; exact a.2) (by rw [x3]; grind)
  rw [x3] at b
  exact b
end VS
end
section
/-! The reference's look answers what the least closed set says. -/
section RSV
variable {T : xt9} {J : Nat → Prop} {x : Int × List sc9} {k s : Nat} {M M' : mM} {r : Int}
/-- the solver's tables are those of T -/
def SvT (M : mM) (s : Nat) (T : xt9) : Prop := mI M s 1 = ((T.length : Nat) : Int) ∧ ∀ (k : Nat) (x : Int × List sc9), T[k]? = some x → mI M (s + 22) k = x.1 ∧ mny M s k = ((x.2.length : Nat) : Int) ∧ ∀ (i : Nat) (c : sc9), x.2[i]? = some c → mI M (s + 24) ((mI M (s + 23) k).toNat + i) = c.2.1 ∧ (∀ J : Nat → Prop, leadQ J M s k i ↔ ldA9 J c) ∧ (∀ b, b ∈ c.2.2 → b.1 < T.length) ∧ ∀ f : Nat → Rat, cw M s (cx M s k i) f = wr9 f c
theorem SvT.sv (h : SvT M s T) (e1 : mI M' s 1 = mI M s 1) (e : ∀ i, 22 ≤ i → i ≤ 28 → mI M' (s + i) = mI M (s + i)) : SvT M' s T := by
  refine ⟨by rw [e1]; exact h.1, fun k x hx => ?_⟩
  obtain ⟨h1, h2, h3⟩ := h.2 k x hx
  have ew : ∀ (c : Nat) (f : Nat → Rat), cw M' s c f = cw M s c f := fun c f => by
    unfold cw chq bg nb tg
    rw [e 25 (by decide) (by decide), e 26 (by decide) (by decide), e 27 (by decide) (by decide), e 28 (by decide) (by decide)]
  have ex : cx M' s = cx M s := by
    funext a b
    unfold cx
    rw [e 23 (by decide) (by decide)]
  unfold mny leadQ at *
  rw [e 22 (by decide) (by decide), e 23 (by decide) (by decide), e 24 (by decide) (by decide), e 25 (by decide) (by decide), e 26 (by decide) (by decide)]
  refine ⟨h1, h2, fun i c hc => ?_⟩
  obtain ⟨g1, g2, g3, g4⟩ := h3 i c hc
  exact ⟨g1, g2, g3, fun f => by rw [ew, ex]; exact g4 f⟩
theorem lt_some {α : Type} {l : List α} {i : Nat} {a : α} (h : l[i]? = some a) : i < l.length := (List.getElem?_eq_some_iff.mp h).1
theorem co_iff (h : SvT M s T) (k0 : mI M s 17 = 0) (hx : T[k]? = some x) : comesQ J M s k 0 ↔ coA9 J x := by
  obtain ⟨a1, a2, a3⟩ := h.2 k x hx
  have use : x.1 ≠ 0 → ∀ i, useP M s k i 0 := fun n i => Or.inl ⟨Or.inr rfl, Or.inl (by rw [k0, a1]; exact fun u => n u.symm)⟩
  unfold comesQ coA9
  rw [a1, a2]
  constructor
  · intro u
    rcases u with ⟨u1, i, u2, -, u3⟩ | ⟨u1, u2, u3⟩
    · have hi := List.getElem?_eq_getElem (l := x.2) (i := i) (by omega)
      exact Or.inl ⟨u1, _, List.mem_of_getElem? hi, ((a3 i _ hi).2.1 J).mp u3⟩
    · refine Or.inr ⟨u1, fun e => by rw [e] at u2; exact absurd u2 (by decide), fun c hc => ?_⟩
      obtain ⟨i, hi⟩ := List.getElem?_of_mem hc
      have lt := lt_some hi
      exact ((a3 i c hi).2.1 J).mp (u3 i (by omega) (use (by rw [u1]; decide) i))
  · intro u
    rcases u with ⟨u1, c, hc, u2⟩ | ⟨u1, u2, u3⟩
    · obtain ⟨i, hi⟩ := List.getElem?_of_mem hc
      have lt := lt_some hi
      exact Or.inl ⟨u1, i, by omega, use (by rw [u1]; decide) i, ((a3 i c hi).2.1 J).mpr u2⟩
    · refine Or.inr ⟨u1, ?_, fun i hi _ => ?_⟩
      · have : x.2.length ≠ 0 := fun e => u2 (List.length_eq_zero_iff.mp e)
        omega
      · have g := List.getElem?_eq_getElem (l := x.2) (i := i) (by omega)
        exact ((a3 i _ g).2.1 J).mpr (u3 _ (List.mem_of_getElem? g))
theorem ref_sv (hS : SvT M s T) (hG : GW M s) (k0 : mI M s 17 = 0) (hk : ∀ (k : Nat) (x : Int × List sc9), T[k]? = some x → x.1 = 0 → x.2 = []) (hg : gvQ M s 0 M') (hl : lokX M' s r) : svA9 T r := by
  obtain ⟨⟨ρ, t, o, f, g3⟩, g4⟩ := hg
  obtain ⟨e, w, hw, hr⟩ := hl
  have nS : ∀ y, y ≠ s + 36 → mI M' y = mI M y := fun y hy => f.2.2.2.2.2.2 y hy
  have es : mI M' s = mI M s := nS s (by omega)
  have e22 : mI M' (s + 22) = mI M (s + 22) := nS _ (by omega)
  have e23 : mI M' (s + 23) = mI M (s + 23) := nS _ (by omega)
  have e24 : mI M' (s + 24) = mI M (s + 24) := nS _ (by omega)
  have e32 : mI M' (s + 32) = mI M (s + 32) := nS _ (by omega)
  have len : (mI M' s 1).toNat = T.length := by rw [es, hS.1]; exact Int.toNat_natCast _
  rw [len] at hr
  have lt : ∀ (k : Nat) (x : Int × List sc9), T[k]? = some x → (k : Int) < mI M s 1 := fun k x hx => by
    have := lt_some hx
    rw [hS.1]
    omega
  have at9 : ∀ k : Nat, (k : Int) < mI M s 1 → ∃ x, T[k]? = some x := fun k hk => ⟨_, List.getElem?_eq_getElem (by rw [hS.1] at hk; omega)⟩
  have L : lsA9 T (fun k => (k : Int) < mI M s 1 ∧ mI M' (s + 36) k = 1) := by
    refine ⟨fun k x hx u => ⟨lt k x hx, ?_⟩, fun J' hc => rk_in ρ (fun k hJ => ?_) hc⟩
    · obtain ⟨b1, b2, b3⟩ := g3 k (lt k x hx)
      rcases b1 with y | y
      · exfalso
        rcases u with u | u
        · have := b2 (by rw [(hS.2 k x hx).1]; exact u)
          omega
        · refine g4 k (lt k x hx) y ((co_iff hS k0 hx).mpr (u.mono (fun j hj => ?_)))
          show mI M' (s + 36) j ≠ 0
          rw [hj.2]
          decide
      · exact y
    · obtain ⟨x, hx⟩ := at9 k hJ.1
      obtain ⟨b1, b2, b3⟩ := g3 k hJ.1
      refine ⟨x, hx, ?_⟩
      rcases (b3 hJ.2).2 with u | u
      · exact Or.inl (by rw [← (hS.2 k x hx).1]; exact u)
      · refine Or.inr ((co_iff hS k0 hx).mp (u.mono hG hJ.1 (fun j hj v => ⟨⟨hj, ?_⟩, v.2⟩)))
        have v1 : mI M' (s + 36) j ≠ 0 := v.1
        rcases (g3 j hj).1 with y | y
        · exact absurd y v1
        · exact y
  have uk : ∀ (k : Nat) (x : Int × List sc9), T[k]? = some x → (unk M' s k ↔ (((k : Int) < mI M s 1 ∧ mI M' (s + 36) k = 1) ∧ x.1 ≠ 3)) := fun k x hx => by
    have l := lt k x hx
    have b := (g3 k l).1
    unfold unk
    rw [e22, (hS.2 k x hx).1]
    constructor
    · intro u
      refine ⟨⟨l, ?_⟩, u.2⟩
      rcases b with y | y
      · exact absurd y u.1
      · exact y
    · intro u
      exact ⟨by rw [u.1.2]; decide, u.2⟩
  have U : unA9 T (fun k => (k : Int) < mI M s 1 ∧ mI M' (s + 36) k = 1) e := fun k x hx => by
    obtain ⟨c1, c2⟩ := hw k (by rw [es]; exact lt k x hx)
    exact ⟨fun u => (c1 ((uk k x hx).mpr u)).1, fun u => (c2 (fun v => u ((uk k x hx).mp v))).1⟩
  have Wt : ∀ (k : Nat) (x : Int × List sc9), T[k]? = some x → (e k = 1 → weA9 x (w k)) ∧ (e k = 0 → w k = 0) := fun k x hx => by
    obtain ⟨c1, c2⟩ := hw k (by rw [es]; exact lt k x hx)
    by_cases u : unk M' s k
    · obtain ⟨d1, D, v, d2, d3, d4, d5, d6⟩ := c1 u
      refine ⟨fun _ => ⟨D, v, ⟨d2, fun c hc => ?_, ?_⟩, d5, d6⟩, fun z => by omega⟩
      · obtain ⟨i, hi⟩ := List.getElem?_of_mem hc
        have li := lt_some hi
        obtain ⟨a1, a2, a3⟩ := hS.2 k x hx
        have q := d3 i (by unfold mny; rw [e23]; show (i : Int) < mny M s k; rw [a2]; omega) (Or.inl (by rw [es, k0, e22, a1]; exact fun z => absurd hc (by rw [hk k x hx z.symm]; exact List.not_mem_nil)))
        rw [e24, e23, (a3 i c hi).1] at q
        exact q
      · rcases d4 with y | ⟨i, y1, -, y2⟩
        · exact Or.inl y
        · obtain ⟨a1, a2, a3⟩ := hS.2 k x hx
          have y1' : (i : Int) < mny M s k := by unfold mny at y1; rw [e23] at y1; exact y1
          rw [a2] at y1'
          have g := List.getElem?_eq_getElem (l := x.2) (i := i) (by omega)
          refine Or.inr ⟨_, List.mem_of_getElem? g, ?_⟩
          rw [← (a3 i _ g).1, ← e24, ← e23]
          exact y2
    · obtain ⟨d1, d2⟩ := c2 u
      exact ⟨fun z => by omega, fun _ => d2⟩
  refine ⟨_, e, L, U, ?_⟩
  rcases hr with ⟨y1, y2⟩ | ⟨y1, y2, y3⟩ | ⟨y1, y2, y3⟩
  · exact Or.inl ⟨y1, y2⟩
  · exact Or.inr ⟨y1, w, Wt, Or.inl ⟨y2, y3⟩⟩
  · exact Or.inr ⟨y1, w, Wt, Or.inr ⟨y2, y3⟩⟩
end RSV
end
