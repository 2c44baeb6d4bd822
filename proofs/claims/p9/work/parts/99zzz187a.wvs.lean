section
/-! The Scales: what weighing comes to, as a number. -/
section WVS
variable {M0 M M' : mM} {R g x y c w f n m t j cn bc : Nat} {sh : Int} {v fv' : Rat}
/-- a row's number -/
def rwv (M : mM) (R t : Nat) : Rat := (nv M (mR M R t + 1) : Rat) * (nv M (mR M R t + 3) : Rat)⁻¹
/-- shares times rows -/
def wsv (M : mM) (R g x : Nat) : Nat → Rat
  | 0 => 0
  | n + 1 => wsv M R g x n + (mI M (g + 9) (x + n) : Rat) * rwv M R (mI M (g + 8) (x + n)).toNat
/-- a fraction's number -/
def fq9 (M : mM) (f : Nat) : Rat := (nv M (f + 1) : Rat) * ((mI M f 2 * nv M (f + 3) : Int) : Rat)⁻¹
theorem wsL_snoc {f : Nat → Rat} {b : Nat × Int} : ∀ l : List (Nat × Int), wsL9 f (l ++ [b]) = wsL9 f l + (b.2 : Rat) * f b.1
  | [] => by
    show (b.2 : Rat) * f b.1 + 0 = 0 + (b.2 : Rat) * f b.1
    grind
  | a :: l => by
    have h := wsL_snoc (f := f) (b := b) l
    show (a.2 : Rat) * f a.1 + wsL9 f (l ++ [b]) = ((a.2 : Rat) * f a.1 + wsL9 f l) + (b.2 : Rat) * f b.1
    rw [h]
    grind
theorem wsL_brl : ∀ n, wsL9 (rwv M R) (brl M g x n) = wsv M R g x n
  | 0 => rfl
  | n + 1 => by
    have h := wsL_brl n
    show wsL9 (rwv M R) (brl M g x n ++ [((mI M (g + 8) (x + n)).toNat, mI M (g + 9) (x + n))]) = wsv M R g x n + (mI M (g + 9) (x + n) : Rat) * rwv M R (mI M (g + 8) (x + n)).toNat
    rw [wsL_snoc, h]
theorem cmm_ws (e1 : mI M (g + 7) c = ((x : Nat) : Int)) (e2 : mI M (g + 7) (c + 1) = ((y : Nat) : Int)) : wsL9 (rwv M R) (cmm M g c).2.2 = wsv M R g x (y - x) := by
  show wsL9 (rwv M R) (brl M g (mI M (g + 7) c).toNat ((mI M (g + 7) (c + 1)).toNat - (mI M (g + 7) c).toNat)) = wsv M R g x (y - x)
  rw [e1, e2, Int.toNat_natCast, Int.toNat_natCast]
  exact wsL_brl _
theorem brl_same (e : ∀ i, i ≤ 9 → mI M' (g + i) = mI M (g + i)) : ∀ n, brl M' g x n = brl M g x n
  | 0 => rfl
  | n + 1 => by
    have h := brl_same e n
    show brl M' g x n ++ [((mI M' (g + 8) (x + n)).toNat, mI M' (g + 9) (x + n))] = brl M g x n ++ [((mI M (g + 8) (x + n)).toNat, mI M (g + 9) (x + n))]
    rw [h, e 8 (by decide), e 9 (by decide)]
theorem cmm_same (e : ∀ i, i ≤ 9 → mI M' (g + i) = mI M (g + i)) : cmm M' g c = cmm M g c := by
  unfold cmm
  rw [e 5 (by decide), e 6 (by decide), e 7 (by decide), brl_same e]
theorem cmm_lt (h : cmdG M g cn bc c) : ∀ b, b ∈ (cmm M g c).2.2 → b.1 < cn := by
  obtain ⟨x, y, mu, c1, c2, c3, c4, c5, -⟩ := h
  intro b hb
  have bl : (cmm M g c).2.2 = (List.range (y - x)).map (fun t => ((mI M (g + 8) (x + t)).toNat, mI M (g + 9) (x + t))) := by
    unfold cmm
    rw [c1, c2, Int.toNat_natCast, Int.toNat_natCast, brl_map]
  rw [bl] at hb
  obtain ⟨t, t1, t2⟩ := List.mem_map.mp hb
  have t3 := List.mem_range.mp t1
  have t4 := c5 (x + t) (by omega) (by omega)
  rw [← t2]
  show (mI M (g + 8) (x + t)).toNat < cn
  omega
theorem rwv_mul (h : 0 < nv M (mR M R t + 3)) : (nv M (mR M R t + 1) : Rat) = rwv M R t * (nv M (mR M R t + 3) : Rat) := by
  have e := Rat.inv_mul_cancel _ (ic_ne h)
  unfold rwv
  generalize (nv M (mR M R t + 3) : Rat) = b at *
  generalize (nv M (mR M R t + 1) : Rat) = a at *
  generalize b⁻¹ = c at *
  grind
theorem rwv_cg (eR : mR M' R = mR M R) (e1 : nv M' (mR M R j + 1) = nv M (mR M R j + 1)) (e3 : nv M' (mR M R j + 3) = nv M (mR M R j + 3)) : rwv M' R j = rwv M R j := by
  unfold rwv
  rw [eR, e1, e3]
/-- a fraction crossed -/
theorem rat_cross {A V a b : Int} (hV : 0 < V) (e : a * V = A * b) : (A : Rat) * (V : Rat)⁻¹ * (b : Rat) = (a : Rat) := by
  have e1 : (a : Rat) * (V : Rat) = (A : Rat) * (b : Rat) := by rw [← Rat.intCast_mul, ← Rat.intCast_mul, e]
  have e2 := Rat.mul_inv_cancel _ (ic_ne hV)
  generalize (V : Rat)⁻¹ = i at *
  generalize (V : Rat) = V at *
  generalize (A : Rat) = A at *
  generalize (a : Rat) = a at *
  generalize (b : Rat) = b at *
  have e3 : A * i * b = a * (V * i) := by grind
  rw [e3, e2]
  grind
theorem fq_mul (h : 0 < mI M f 2 * nv M (f + 3)) : fq9 M f * ((mI M f 2 * nv M (f + 3) : Int) : Rat) = (nv M (f + 1) : Rat) := by
  unfold fq9
  exact rat_cross h rfl
/-- a worth on its way -/
def wgV (M0 : mM) (R cn w : Nat) (v : Rat) (M : mM) : Prop := Rle M0 R cn → (nv M (w + 1) : Rat) = v * (nv M (w + 3) : Rat)
theorem wv_skip {Fa V : Int} (h : wgV M0 R cn w v M) (e : Rle M0 R cn → (Fa : Rat) = fv' * (V : Rat)) (hF : Fa = 0) (hV : Rle M0 R cn → 0 < V) : wgV M0 R cn w (v + (sh : Rat) * fv') M := fun q => by
  have e1 := e q
  have e2 := Rat.mul_inv_cancel _ (ic_ne (hV q))
  have e3 : ((0 : Int) : Rat) = 0 := rfl
  rw [hF, e3] at e1
  have e4 : fv' = 0 := by
    generalize (V : Rat)⁻¹ = i at *
    generalize (V : Rat) = V at *
    have e5 : fv' * (V * i) = fv' * V * i := by grind
    rw [e2, ← e1] at e5
    grind
  rw [h q, e4]
  grind
theorem wv_same {Fa : Int} (h : wgV M0 R cn w v M) (e1 : nv M' (w + 1) = nv M (w + 1) + sh * Fa) (e3 : nv M' (w + 3) = nv M (w + 3)) (e : Rle M0 R cn → (Fa : Rat) = fv' * (nv M (w + 3) : Rat)) : wgV M0 R cn w (v + (sh : Rat) * fv') M' := fun q => by
  rw [e1, e3, Rat.intCast_add, Rat.intCast_mul, h q, e q]
  grind
theorem wv_diff {Fa V Q1 Q2 r : Int} (h : wgV M0 R cn w v M) (e1 : nv M' (w + 1) = nv M (w + 1) * Q2 + sh * (Fa * Q1)) (e3 : nv M' (w + 3) = nv M (w + 3) * Q2) (eU : nv M (w + 3) = r * Q1) (eV : V = r * Q2) (e : Rle M0 R cn → (Fa : Rat) = fv' * (V : Rat)) : wgV M0 R cn w (v + (sh : Rat) * fv') M' := fun q => by
  have h1 : (nv M' (w + 1) : Rat) = (nv M (w + 1) : Rat) * (Q2 : Rat) + (sh : Rat) * ((Fa : Rat) * (Q1 : Rat)) := by rw [e1, Rat.intCast_add, Rat.intCast_mul, Rat.intCast_mul, Rat.intCast_mul]
  have h3 : (nv M' (w + 3) : Rat) = (nv M (w + 3) : Rat) * (Q2 : Rat) := by rw [e3, Rat.intCast_mul]
  have hU : (nv M (w + 3) : Rat) = (r : Rat) * (Q1 : Rat) := by rw [eU, Rat.intCast_mul]
  have hV : (V : Rat) = (r : Rat) * (Q2 : Rat) := by rw [eV, Rat.intCast_mul]
  rw [h1, h3, h q, e q, hU, hV]
  grind
/-- a worth that was weighed, as a number -/
def BsV (M0 : mM) (R cn : Nat) (M : mM) (b : Nat) (v : Rat) : Prop := Rle M0 R cn → fq9 M b = v
theorem BsV.cg {b : Nat} (h : BsV M0 R cn M b v) (e1 : nv M' (b + 1) = nv M (b + 1)) (e3 : nv M' (b + 3) = nv M (b + 3)) (e2 : mI M' b = mI M b) : BsV M0 R cn M' b v := fun q => by
  have := h q
  unfold fq9 at this ⊢
  rw [e1, e3, e2]
  exact this
theorem wv_bs {mu : Int} (h : wgV M0 R cn w v M) (hm : 0 < mu) (tt : mI M w 2 = mu) (hU : Rle M0 R cn → 0 < nv M (w + 3)) : BsV M0 R cn M w (v * (mu : Rat)⁻¹) := fun q => by
  have e1 := Rat.mul_inv_cancel _ (ic_ne (hU q))
  have e2 := Rat.mul_inv_cancel _ (ic_ne hm)
  have e3 := Rat.mul_inv_cancel _ (ic_ne (Int.mul_pos hm (hU q)))
  unfold fq9
  rw [tt, h q]
  rw [Rat.intCast_mul] at e3 ⊢
  generalize ((mu : Rat) * (nv M (w + 3) : Rat))⁻¹ = k at *
  generalize (mu : Rat)⁻¹ = i at *
  generalize (nv M (w + 3) : Rat)⁻¹ = l at *
  generalize (nv M (w + 3) : Rat) = U at *
  generalize (mu : Rat) = m at *
  have e4 : v * U * k * (m * i) = v * i * (m * U * k) := by grind
  rw [e2, e3] at e4
  grind
/-- two numbers compared -/
def orR (p q : Rat) (x : Int) : Prop := (x = 0 ∧ p = q) ∨ (x = 1 ∧ q < p) ∨ (x = -1 ∧ p < q)
theorem orQ_mul {a b V x : Int} (hV : 0 < V) (h : orQ a b x) : orQ (a * V) (b * V) x := by
  rcases h with ⟨x0, e⟩ | ⟨x0, e⟩ | ⟨x0, e⟩
  · exact Or.inl ⟨x0, by rw [e]⟩
  · exact Or.inr (Or.inl ⟨x0, Int.mul_lt_mul_of_pos_right e hV⟩)
  · exact Or.inr (Or.inr ⟨x0, Int.mul_lt_mul_of_pos_right e hV⟩)
theorem or_rat {p q : Rat} {A B X Y x : Int} (hX : 0 < X) (hY : 0 < Y) (e1 : p * (X : Rat) = (A : Rat)) (e2 : q * (Y : Rat) = (B : Rat)) (o : orQ (A * Y) (B * X) x) : orR p q x := by
  have q1 : (0 : Rat) < (X : Rat) := Rat.intCast_pos.2 hX
  have q2 : (0 : Rat) < (Y : Rat) := Rat.intCast_pos.2 hY
  have hp := Rat.mul_pos q1 q2
  have c1 : ((A * Y : Int) : Rat) = p * ((X : Rat) * (Y : Rat)) := by rw [Rat.intCast_mul, ← e1]; grind
  have c2 : ((B * X : Int) : Rat) = q * ((X : Rat) * (Y : Rat)) := by rw [Rat.intCast_mul, ← e2]; grind
  clear e1 e2 q1 q2
  generalize (X : Rat) * (Y : Rat) = P at *
  have lt : ∀ {u w : Rat}, u * P < w * P → u < w := fun {u w} h => by
    refine Classical.byContradiction (fun n => ?_)
    have a := Rat.mul_nonneg (a := u - w) (b := P) (by grind) (Rat.le_of_lt hp)
    grind
  rcases o with ⟨x0, e⟩ | ⟨x0, e⟩ | ⟨x0, e⟩
  · refine Or.inl ⟨x0, ?_⟩
    have h' : ((A * Y : Int) : Rat) = ((B * X : Int) : Rat) := by rw [e]
    rw [c1, c2] at h'
    have i := Rat.mul_inv_cancel P (by grind)
    have e' : p * P * P⁻¹ = q * P * P⁻¹ := by rw [h']
    grind
  · refine Or.inr (Or.inl ⟨x0, lt ?_⟩)
    rw [← c1, ← c2]
    exact ic_lt.2 e
  · refine Or.inr (Or.inr ⟨x0, lt ?_⟩)
    rw [← c1, ← c2]
    exact ic_lt.2 e
end WVS
end
section
/-! The Scales: a command is weighed, the whole. -/
section NAW
variable {G : mG} {d b c z n m w S x y B u g a R cn bc i j mu : Nat} {M M0 M' M1 M2 M3 : mM} {L : List Nat} {W : Nat → Nat} {T T' I I' : Nat → Prop} {r r' : Prop} {sh : Int}
theorem wg_bits {v : Int} (h : v < 2 ^ (30 * (S * j)) * 1073741824) : v < 2 ^ (30 * (S * j + 1)) := by rw [p30]; exact h
theorem wg_bits3 {v : Int} (hj : j ≤ 8) (h : v < ((j : Int) + 1) * (2 ^ (30 * (S * j)) * 1152921504606846976)) : v < 2 ^ (30 * (S * j + 3)) := by
  rw [show S * j + 3 = S * j + 1 + 1 + 1 by omega, p30, p30, p30]
  have h1 := p30p (S * j)
  have h2 := Int.mul_le_mul_of_nonneg_right (show (j : Int) + 1 ≤ 1073741824 by omega) (show 0 ≤ 2 ^ (30 * (S * j)) * 1152921504606846976 by omega)
  omega
theorem wg_w {B S j : Nat} (hj : j < 8) (hB : 8 * S + 6 ≤ B) : S * j + 3 + S + 3 ≤ B ∧ S * j + 1 + S + 3 ≤ B := by
  have h1 : S * j + S = S * (j + 1) := by rw [Nat.mul_add, Nat.mul_one]
  have h2 : S * (j + 1) ≤ S * 8 := Nat.mul_le_mul_left _ (by omega)
  omega
theorem wg_ws {n : Nat} (h : ∀ i, x ≤ i → i < x + n → 1 ≤ mI M (g + 9) i) : 0 ≤ wsm M g x n := by
  induction n with
  | zero => exact Int.le_refl _
  | succ n ih =>
    show 0 ≤ wsm M g x n + mI M (g + 9) (x + n)
    have h1 := ih (fun i a b => h i a (by omega))
    have h2 := h (x + n) (by omega) (by omega)
    omega
/-- one branch -/
theorem s_wg_one {Q : mM → Prop} {sm : Int} {t : Nat} (hE : We L W z w g a R cn M) (hI : wgI M0 R cn w S j sm M) (hj : j < 8) (ht : t < cn) (hrs : Rsm M R cn S) (hle : Rle M0 R cn → Rle M R cn) (hW : ∀ x, Twg z w x → B ≤ W x) (b1 : 8 * S + 6 ≤ B) (hB : B ≤ 16000) (hsh : 0 ≤ sh ∧ sh < 1073741824) {v9 f9 : Rat} (hv9 : wgV M0 R cn w v9 M) (hf9 : Rle M0 R cn → (nv M (mR M R t + 1) : Rat) = f9 * (nv M (mR M R t + 3) : Rat))
    (hQ : ∀ M', NL L W (Twg z w) (fun _ => False) False z M M' → wgI M0 R cn w S (j + 1) (sm + sh) M' → wgV M0 R cn w (v9 + (sh : Rat) * f9) M' → Q M') (f : Nat) (ef : mR M R t = f) : mK M f = 11 ∧ mK M (mR M f 0) = 10 ∧ ((mI M (mR M f 0) 1 = 0) → Q M) ∧ (¬ (mI M (mR M f 0) 1 = 0) → (mK M w = 11 ∧ Ci G y_Na_order (d + 4) [vr (mR M w 1), vr (mR M f 1)] M (fun x40 M39 => i32 x40 ∧ mOk M39 ∧ (((x40 = 0) → (mK M39 w = 11 ∧ mK M39 f = 11 ∧ mK M39 (mR M39 w 0) = 10 ∧ Cv G y_Na_add (d + 4) [vr (mR M39 w 0), vr (mR M39 f 0), vi sh] M39 (fun M47 => mOk M47 ∧ Q M47))) ∧ (¬ (x40 = 0) → (mK M39 w = 11 ∧ mK M39 f = 11 ∧ mK M39 z = 9 ∧ Cr G y_Sc_commonDivisor (d + 4) [vr z, vr (mR M39 w 1), vr (mR M39 f 1)] M39 (fun x54 M53 => mOk M53 ∧ (mK M53 z = 9 ∧ mK M53 w = 11 ∧ mK M53 (mR M53 z 7) = 10 ∧ Cv G y_Na_put1 (d + 4) [vr (mR M53 z 7), vr (mR M53 w 1)] M53 (fun M59 => mOk M59 ∧ (mK M59 z = 9 ∧ mK M59 (mR M59 z 7) = 10 ∧ Cv G y_Na_divide (d + 4) [vr (mR M59 z 7), vr x54, vr (mR M59 z 2), vr (mR M59 z 3)] M59 (fun M64 => mOk M64 ∧ (mK M64 z = 9 ∧ mK M64 (mR M64 z 7) = 10 ∧ Cv G y_Na_put1 (d + 4) [vr (mR M64 z 7), vr (mR M64 z 2)] M64 (fun M69 => mOk M69 ∧ (mK M69 z = 9 ∧ mK M69 f = 11 ∧ mK M69 (mR M69 z 8) = 10 ∧ Cv G y_Na_put1 (d + 4) [vr (mR M69 z 8), vr (mR M69 f 1)] M69 (fun M75 => mOk M75 ∧ (mK M75 z = 9 ∧ mK M75 (mR M75 z 8) = 10 ∧ Cv G y_Na_divide (d + 4) [vr (mR M75 z 8), vr x54, vr (mR M75 z 2), vr (mR M75 z 3)] M75 (fun M80 => mOk M80 ∧ (mK M80 z = 9 ∧ mK M80 (mR M80 z 8) = 10 ∧ Cv G y_Na_put1 (d + 4) [vr (mR M80 z 8), vr (mR M80 z 2)] M80 (fun M85 => mOk M85 ∧ (mK M85 z = 9 ∧ mK M85 w = 11 ∧ mK M85 (mR M85 z 5) = 10 ∧ Cv G y_Na_putProduct (d + 4) [vr (mR M85 z 5), vr (mR M85 w 0), vr (mR M85 z 8)] M85 (fun M91 => mOk M91 ∧ (mK M91 w = 11 ∧ mK M91 z = 9 ∧ mK M91 (mR M91 w 0) = 10 ∧ Cv G y_Na_put1 (d + 4) [vr (mR M91 w 0), vr (mR M91 z 5)] M91 (fun M97 => mOk M97 ∧ (mK M97 z = 9 ∧ mK M97 f = 11 ∧ mK M97 (mR M97 z 5) = 10 ∧ Cv G y_Na_putProduct (d + 4) [vr (mR M97 z 5), vr (mR M97 f 0), vr (mR M97 z 7)] M97 (fun M103 => mOk M103 ∧ (mK M103 w = 11 ∧ mK M103 z = 9 ∧ mK M103 (mR M103 w 0) = 10 ∧ Cv G y_Na_add (d + 4) [vr (mR M103 w 0), vr (mR M103 z 5), vi sh] M103 (fun M109 => mOk M109 ∧ (mK M109 z = 9 ∧ mK M109 w = 11 ∧ mK M109 (mR M109 z 5) = 10 ∧ Cv G y_Na_putProduct (d + 4) [vr (mR M109 z 5), vr (mR M109 w 1), vr (mR M109 z 8)] M109 (fun M115 => mOk M115 ∧ (mK M115 w = 11 ∧ mK M115 z = 9 ∧ mK M115 (mR M115 w 1) = 10 ∧ Cv G y_Na_put1 (d + 4) [vr (mR M115 w 1), vr (mR M115 z 5)] M115 (fun M121 => mOk M121 ∧ (Q M121)))))))))))))))))))))))))))))))) := by
  have hw := hE.ws ht
  have dw := hE.2.2.2 t ht
  obtain ⟨rs1, rs2, rs3⟩ := hrs t ht
  have rle : Rle M0 R cn → nv M (f + 1) ≤ nv M (f + 3) ∧ 0 < nv M (f + 3) := fun q => by
    have := hle q t ht
    rw [ef] at this
    exact this
  rw [ef] at hw dw rs1 rs2 rs3 hf9
  obtain ⟨hO, hF, hS, hfw, hff⟩ := id hw
  obtain ⟨⟨k1, k2, k3⟩, -, ⟨w0, w1⟩, ⟨f0, f1⟩, -, -, -, -, -, mw1, mw3, mf1, mf3⟩ := hw.pl
  have A0 := hF.nn0 mw1
  have X0 := hF.nn0 mf1
  obtain ⟨bb1, bb2⟩ := wg_w hj b1
  have hA := wg_bits3 (by omega) hI.2.1
  have hU := wg_bits hI.1.2
  have nw : w + 1 ≠ f + 1 := fun e => dw.2.1 (Or.inr (Or.inr (Or.inr (Or.inr (Or.inl e.symm)))))
  rw [f0, w1, f1, (hF.nt mf1).2.1]
  refine ⟨k3, hF.kd mf1, fun y0 => hQ M (NL.refl hO hF hw.tw noI hS.z9) (wg_skip hI hsh.1 A0) (wv_skip hv9 hf9 ((hF.sz0 mf1).1 (by omega)) (fun q => (rle q).2)), fun _ => ⟨k2, (f_order hO hF mw3 mf3).mono (fun x40 M39 q => ?_)⟩⟩
  obtain ⟨e39, ox⟩ := q
  rw [e39, w0, f0]
  refine ⟨by unfold orQ at ox; exact ⟨by omega, by omega⟩, hO, fun y => ⟨k2, k3, hF.kd mw1, ?_⟩, fun y => ?_⟩
  · have eq : nv M (w + 3) = nv M (f + 3) := by
      rcases ox with u | u | u
      · exact u.2
      · exact absurd y (by rw [u.1]; decide)
      · exact absurd y (by rw [u.1]; decide)
    have sA := hF.szv mw1 hA
    have sF := hF.szv mf1 rs3
    have wW := hW (w + 1) (Or.inr (Or.inr (Or.inr (Or.inr (Or.inl rfl)))))
    refine (f_add (d := d + 1) hsh hO hF mw1 mf1 nw (by omega) (by omega)).mono (fun M47 k => ?_)
    obtain ⟨c, v⟩ := k
    obtain ⟨n1, H1⟩ := hw.st (Or.inr (Or.inr (Or.inr (Or.inr (Or.inl rfl))))) c
    exact ⟨c.ok, hQ M47 n1 (wg_same hI hsh v (c.v hF mw3 (nez (by decide))) ⟨X0, rs3⟩ (fun q => by rw [eq]; exact (rle q).1)) (wv_same hv9 v (c.v hF mw3 (nez (by decide))) (fun q => by rw [eq]; exact hf9 q))⟩
  · have uv : 0 < nv M (w + 3) ∨ 0 < nv M (f + 3) := by
      have n1 := hI.1.1
      unfold orQ at ox
      omega
    refine s_wgDiff (d := d) hw dw hsh uv hA hU rs2 rs3 hW bb1 bb2 hB (fun M' Q1 Q2 r n1 g1 g2 g3 g4 g5 g6 g7 => hQ M' n1 (wg_diff hI A0 hsh g1 g2 g3 g4 g5 ⟨rs1, rs2⟩ g6 g7 ⟨X0, rs3⟩ rle) (wv_diff hv9 g1 g2 g3 g4 hf9))
/-- the loop over the branches -/
theorem s_wg25 (hE0 : We L W z w g a R cn M0) (hrs0 : Rsm M0 R cn S) (hW : ∀ x, Twg z w x → B ≤ W x) (b1 : 8 * S + 6 ≤ B) (hB : B ≤ 16000) (hc : c < 4096) (hcn : cn ≤ 512) (e7 : mI M0 (g + 7) (c + 1) = ((y : Nat) : Int)) (hxy : x ≤ y ∧ y ≤ x + 8 ∧ y ≤ 4096) (hbr : ∀ i, x ≤ i → i < y → 0 ≤ mI M0 (g + 8) i ∧ mI M0 (g + 8) i < cn ∧ 1 ≤ mI M0 (g + 9) i ∧ mI M0 (g + 9) i < 1073741824) {mu : Int} (emu : wsm M0 g x (y - x) = mu) {t0 : Int} {Qw : mM → Prop} (Hm : ∀ M', NL L W (Twg z w) (fun x => x = w) False z M0 M' → mI M' w 2 = t0 → wgI M0 R cn w S (y - x) mu M' → wgV M0 R cn w (wsv M0 R g x (y - x)) M' → Qw M') : ∀ (t i : Nat) (M : mM), y ≤ i + t → x ≤ i → i ≤ y → NL L W (Twg z w) (fun x => x = w) False z M0 M → mI M w 2 = t0 → wgI M0 R cn w S (i - x) (wsm M0 g x (i - x)) M → wgV M0 R cn w (wsv M0 R g x (i - x)) M → h_Sc_weigh_25 G (d + 4) z g c a w i M Qw := by
  intro t
  induction t with
  | zero =>
    intro i M h1 h2 h3 hN ht hI hv9
    obtain ⟨hE, e9, eR, -⟩ := hE0.nl hN
    have ei : i = y := by omega
    subst ei
    rw [emu] at hI
    obtain ⟨-, ⟨⟨g1, ⟨-, -, -, r7, -⟩, k, ⟨-, -, -, n7, -⟩⟩, -⟩, -⟩ := hE
    refine k_Sc_weigh_25 hN.ok ⟨by omega, by omega⟩ ⟨by omega, by omega⟩ ?_
    rw [r7, n7, show Int.toNat ((c : Int) + 1) = c + 1 by omega, e9 7 (by decide), e7]
    exact ⟨g1, k 7 (by decide) (by decide), ⟨by omega, by omega⟩, fun _ => Hm M hN ht hI hv9, fun u => absurd (Int.le_refl _) u⟩
  | succ t ih =>
    intro i M h1 h2 h3 hN ht hI hv9
    by_cases ei : i = y
    · exact ih i M (by omega) h2 h3 hN ht hI hv9
    obtain ⟨hE, e9, eR, vals⟩ := hE0.nl hN
    obtain ⟨b8, b8', b9, b9'⟩ := hbr i h2 (by omega)
    obtain ⟨⟨hO, hF, hS, hfw⟩, ⟨⟨g1, ⟨-, -, -, r7, r8, r9⟩, k, ⟨-, -, -, n7, n8, n9⟩⟩, -⟩, ⟨q1, q2, q3, q4, -⟩, -⟩ := id hE
    obtain ⟨to, eto⟩ : ∃ to : Nat, mI M0 (g + 8) i = ((to : Nat) : Int) := ⟨(mI M0 (g + 8) i).toNat, by omega⟩
    refine k_Sc_weigh_25 hN.ok ⟨by omega, by omega⟩ ⟨by omega, by omega⟩ ?_
    rw [r7, n7, show Int.toNat ((c : Int) + 1) = c + 1 by omega, e9 7 (by decide), e7, r8, n8, q2, r9, n9, Int.toNat_natCast, e9 8 (by decide), e9 9 (by decide), eto, Int.toNat_natCast]
    refine ⟨g1, k 7 (by decide) (by decide), ⟨by omega, by omega⟩, fun u => absurd u (by omega), fun _ => ⟨q1, k 8 (by decide) (by decide), ⟨by omega, by omega⟩, q3, ⟨by omega, by omega⟩, k 9 (by decide) (by decide), ⟨by omega, by omega⟩, ?_⟩⟩
    have hrs : Rsm M R cn S := fun i hi => by
      rw [eR, (vals i hi).1, (vals i hi).2]
      exact hrs0 i hi
    have hle : Rle M0 R cn → Rle M R cn := fun q i hi => by
      rw [eR, (vals i hi).1, (vals i hi).2]
      exact q i hi
    refine s_wg_one (d := d) (Q := fun M' => h_Sc_weigh_291 G (d + 4) z g c a w i M' Qw) hE hI (by omega) (show to < cn by omega) hrs hle hW b1 hB ⟨by omega, b9'⟩ hv9 (f9 := rwv M0 R to) (fun q => by
      rw [eR, (vals to (by omega)).1, (vals to (by omega)).2]
      exact rwv_mul (q to (by omega)).2) (fun M' n1 h1' hv' => ?_) _ rfl
    refine k_Sc_weigh_291 n1.ok ⟨by omega, by omega⟩ ⟨by omega, by omega⟩ ?_
    rw [show ((i : Int) + 1) = ((i + 1 : Nat) : Int) by omega]
    have e1 : i + 1 - x = (i - x) + 1 := by omega
    refine ih (i + 1) M' (by omega) (by omega) (by omega) (hN.trans (n1.mono hF (fun _ e => e) (hE.ws (show to < cn by omega)).tw (fun _ e => e.elim) (hE.ws (show to < cn by omega)).iw (fun e => e))) ?_ ?_ ?_
    · rw [(n1.frp hF hfw.1).2 (fun e => e)]; exact ht
    · rw [e1]
      show wgI M0 R cn w S (i - x + 1) (wsm M0 g x (i - x) + mI M0 (g + 9) (x + (i - x))) M'
      rw [show x + (i - x) = i by omega]
      exact h1'
    · rw [e1]
      show wgV M0 R cn w (wsv M0 R g x (i - x) + (mI M0 (g + 9) (x + (i - x)) : Rat) * rwv M0 R (mI M0 (g + 8) (x + (i - x))).toNat) M'
      rw [show x + (i - x) = i by omega, eto, Int.toNat_natCast]
      exact hv'
theorem wg_end {sm : Int} (hN : NL L W (Twg z w) (fun x => x = w) False z M0 M) (ht : mI M w 2 = sm) (hj : j ≤ 8) (hI : wgI M0 R cn w S j sm M) : wgQ L W z w R cn S sm M0 M := by
  have e : S * j ≤ 8 * S := by rw [Nat.mul_comm 8 S]; exact Nat.mul_le_mul_left _ hj
  refine ⟨hN, ⟨hI.1.1, Int.lt_of_lt_of_le (wg_bits hI.1.2) (p30m (by omega))⟩, Int.lt_of_lt_of_le (wg_bits3 hj hI.2.1) (p30m (by omega)), ht, hI.2.2⟩
/-- a command is weighed -/
theorem f_weighX (hE : We L W z w g a R cn M) (hrs : Rsm M R cn S) (hW : ∀ x, Twg z w x → B ≤ W x) (b1 : 8 * S + 6 ≤ B) (hB : B ≤ 16000) (hc : c < 4096) (hcn : cn ≤ 512) (hbc : bc ≤ 4096) (hcm : cmdG M g cn bc c) : ∃ mu : Nat, (1 ≤ mu ∧ mu < 1000000000) ∧ (cmm M g c).2.1 = ((mu : Nat) : Int) ∧ Cv G y_Sc_weigh (d + 5) [vr z, vr g, vi c, vr a, vr w] M (fun M' => wgQ L W z w R cn S mu M M' ∧ wgV M R cn w (wsL9 (rwv M R) (cmm M g c).2.2) M') := by
  obtain ⟨x, y, mu, h1, h2, ⟨h3, h3'⟩, h4, h5, h6, h7, h8, h9, -⟩ := hcm
  refine ⟨mu, ⟨h7, h8⟩, h6, ?_⟩
  rw [cmm_ws h1 h2]
  obtain ⟨⟨hO, hF, hS, hfw⟩, ⟨hG, hgo⟩, hR, hD⟩ := id hE
  refine k_Sc_weigh hO ⟨by omega, by omega⟩ ⟨hfw.1.1, (f_Fr_put0 (d := d + 3) ⟨by decide, by decide⟩ hO hF hfw hS.z9).mono (fun M2 k => ?_)⟩
  obtain ⟨n0, v1, v3, t2⟩ := k
  have htw : ∀ t, Twg z w t → t ∈ L := by
    intro t ht
    rcases ht with u | u | u | u | u | u
    · exact hS.t4 t u
    · rw [u]; exact hS.2.2.2.2.2.1.2.2.2.2.2.1
    · rw [u]; exact hS.2.2.2.2.2.1.2.2.2.2.2.2.1
    · rw [u]; exact hS.2.2.2.2.2.1.2.2.2.2.2.2.2
    · rw [u]; exact hfw.2.1
    · rw [u]; exact hfw.2.2
  have n2 : NL L W (Twg z w) (fun x => x = w) False z M M2 := n0.mono hF (fun t ht => ht.elim (fun e => Or.inr (Or.inr (Or.inr (Or.inr (Or.inl e))))) (fun e => Or.inr (Or.inr (Or.inr (Or.inr (Or.inr e)))))) htw (fun _ e => e) (fun x e => by rw [e]; exact ⟨hfw.1.2.2, hfw.1.1⟩) (fun e => e)
  obtain ⟨hE2, e9, eR, vals⟩ := hE.nl n2
  obtain ⟨⟨hO2, hF2, hS2, hfw2⟩, ⟨⟨g1, ⟨-, -, r6, r7, -⟩, kk, ⟨-, -, n6, n7, -⟩⟩, hgo2⟩, -⟩ := id hE2
  rw [r6, n6, e9 6 (by decide), Int.toNat_natCast, h6]
  refine ⟨n2.ok, g1, kk 6 (by decide) (by decide), ⟨by omega, by omega⟩, hfw2.1.1, fun M9 e9' => ?_⟩
  obtain ⟨n3, t3, v9⟩ := nl_times (T := Twg z w) (I := fun x => x = w) (r := False) (z := z) n2.ok hF2 hfw2 hS2.z9 ⟨by omega, by omega⟩ e9' htw rfl (fun x e => by rw [e]; exact ⟨hfw2.1.2.2, hfw2.1.1⟩)
  have n9 := n2.trans n3
  obtain ⟨hE9, f9, -, -⟩ := hE.nl n9
  obtain ⟨-, ⟨⟨g1', ⟨-, -, -, r7', -⟩, kk', ⟨-, -, -, n7', -⟩⟩, -⟩, -⟩ := id hE9
  rw [r7', n7', f9 7 (by decide), h1]
  have wl : ∀ i, x ≤ i → i < y → mI M (g + 9) i < 1073741824 := fun i p q => by
    have := wsm_le (M := M) (g := g) (x := x) (n := y - x) (fun i p q => (h5 i p (by omega)).2.2) (y - x) (Nat.le_refl _) i p (by omega)
    rw [h9] at this
    omega
  refine ⟨kk' 7 (by decide) (by decide), ⟨by omega, by omega⟩, ?_⟩
  refine s_wg25 (d := d) (t0 := ((mu : Nat) : Int)) hE hrs hW b1 hB hc hcn h2 ⟨by omega, h3', by omega⟩ (fun i p q => ⟨(h5 i p q).1, (h5 i p q).2.1, (h5 i p q).2.2, wl i p q⟩) h9 (fun M' g2 g3 g4 g5 => ⟨wg_end g2 g3 (by omega) g4, g5⟩) (y - x) x M9 (by omega) (Nat.le_refl _) (by omega) n9 t3 ?_ ?_
  rotate_left
  · rw [Nat.sub_self]
    intro _
    show (nv M9 (w + 1) : Rat) = 0 * (nv M9 (w + 3) : Rat)
    rw [v9 _ hfw.2.1, v1]
    have z0 : ((0 : Int) : Rat) = 0 := rfl
    rw [z0]
    grind
  rw [Nat.sub_self]
  have e0 : (2 : Int) ^ (30 * (S * 0)) = 1 := by rw [Nat.mul_zero]; decide
  refine ⟨⟨by rw [v9 _ hfw.2.2, v3]; decide, by rw [v9 _ hfw.2.2, v3, e0]; decide⟩, by rw [v9 _ hfw.2.1, v1, e0]; decide, fun _ => ?_⟩
  rw [v9 _ hfw.2.1, v1, v9 _ hfw.2.2, v3]
  exact ⟨(by decide : (0 : Int) ≤ 0 * 1), by decide⟩
theorem f_weigh (hE : We L W z w g a R cn M) (hrs : Rsm M R cn S) (hW : ∀ x, Twg z w x → B ≤ W x) (b1 : 8 * S + 6 ≤ B) (hB : B ≤ 16000) (hc : c < 4096) (hcn : cn ≤ 512) (hbc : bc ≤ 4096) (hcm : cmdG M g cn bc c) : ∃ mu : Nat, (1 ≤ mu ∧ mu < 1000000000) ∧ Cv G y_Sc_weigh (d + 5) [vr z, vr g, vi c, vr a, vr w] M (wgQ L W z w R cn S mu M) := by
  obtain ⟨mu, h1, -, h2⟩ := f_weighX (G := G) (d := d) hE hrs hW b1 hB hc hcn hbc hcm
  exact ⟨mu, h1, h2.mono (fun M' q => q.1)⟩
end NAW
end
section
/-! The Scales: two fractions are compared; a fraction is brought to least terms. -/
section NAX
variable {G : mG} {d b c z n m w S x y B u g a R cn f f' s : Nat} {M M0 M' M1 M2 M3 : mM} {L : List Nat} {W : Nat → Nat} {T T' I I' : Nat → Prop} {r r' : Prop} {sh : Int}
def Tor (z x : Nat) : Prop := x = z + 9 ∨ x = z + 11
/-- what comparing works with -/
def Ors (L : List Nat) (W : Nat → Nat) (z f f' : Nat) (M : mM) : Prop := mOk M ∧ NF L W M ∧ SK L M z ∧ FrL L M f ∧ FrL L M f'
theorem Ors.nl (h : Ors L W z f f' M) (k : NL L W (Tor z) (fun _ => False) False z M M') : Ors L W z f f' M' := by
  obtain ⟨h1, h2, h3, h4, h5⟩ := h
  exact ⟨k.ok, k.nf, k.sk h2 h3, k.frl h2 h4, k.frl h2 h5⟩
theorem Ors.tor (h : Ors L W z f f' M) : ∀ t, Tor z t → t ∈ L := fun t ht => by
  have k := h.2.2.1.2.2.2.2.2.1
  rcases ht with e | e
  · rw [e]; exact k.2.2.2.2.1
  · rw [e]; exact k.2.2.2.2.2.1
theorem Ors.st (h : Ors L W z f f' M) (ha : Tor z a) (c : NC L W (fun x => x = a) M M') : NL L W (Tor z) (fun _ => False) False z M M' ∧ Ors L W z f f' M' := by
  have n : NL L W (Tor z) (fun _ => False) False z M M' := (c.nl (I := fun _ => False) (r := False) noI h.2.2.1.z9).mono h.2.1 (fun t ht => by rw [ht]; exact ha) h.tor (fun _ u => u) noI (fun u => u)
  exact ⟨n, h.nl n⟩
theorem Ors.pl (h : Ors L W z f f' M) : (mK M z = 9 ∧ mK M f = 11 ∧ mK M f' = 11) ∧ (mR M z 4 = z + 9 ∧ mR M z 5 = z + 11) ∧ ((mR M f 0 = f + 1 ∧ mR M f 1 = f + 3) ∧ (mR M f' 0 = f' + 1 ∧ mR M f' 1 = f' + 3)) ∧ (z + 9 ∈ L ∧ z + 11 ∈ L ∧ f + 1 ∈ L ∧ f + 3 ∈ L ∧ f' + 1 ∈ L ∧ f' + 3 ∈ L) := by
  obtain ⟨-, -, ⟨k1, ⟨-, -, -, -, k4, k5, -⟩, -, -, -, ⟨-, -, -, -, p1, p2, -⟩, -⟩, ⟨⟨q1, q2, -⟩, q3, q4⟩, ⟨⟨r1, r2, -⟩, r3, r4⟩⟩ := h
  exact ⟨⟨k1.1, q1, r1⟩, ⟨k4, k5⟩, ⟨q2, r2⟩, p1, p2, q3, q4, r3, r4⟩
/-- numbers of at most s limbs, small factors -/
def Osz (M : mM) (f s : Nat) : Prop := sz M (f + 1) ≤ s ∧ sz M (f + 3) ≤ s ∧ (1 ≤ mI M f 2 ∧ mI M f 2 < 1073741824)
theorem mul_sz {v t : Int} (hv : 0 ≤ v ∧ v < 2 ^ (30 * s)) (ht : 1 ≤ t ∧ t < 1073741824) : 0 ≤ t * v ∧ t * v < 2 ^ (30 * (s + 1)) := by
  rw [p30, Int.mul_comm]
  have h1 : v * t ≤ v * 1073741824 := Int.mul_le_mul_of_nonneg_left (by omega) hv.1
  have h2 := Int.mul_nonneg hv.1 (show 0 ≤ t by omega)
  omega
/-- from the two products on -/
theorem s_orEnd (h : Ors L W z f f' M) (t1 : 1 ≤ mI M f' 2 ∧ mI M f' 2 < 1073741824) (t2 : 1 ≤ mI M f 2 ∧ mI M f 2 < 1073741824) (s1 : sz M (z + 9) + 1 ≤ W (z + 9)) (s2 : sz M (z + 11) + 1 ≤ W (z + 11)) : mK M z = 9 ∧ mK M f' = 11 ∧ mK M (mR M z 4) = 10 ∧ Cv G y_Na_multiply (d + 4) [vr (mR M z 4), vi (mI M f' 2)] M (fun M26 => mOk M26 ∧ (mK M26 z = 9 ∧ mK M26 f = 11 ∧ mK M26 (mR M26 z 5) = 10 ∧ Cv G y_Na_multiply (d + 4) [vr (mR M26 z 5), vi (mI M26 f 2)] M26 (fun M32 => mOk M32 ∧ (mK M32 z = 9 ∧ Ci G y_Na_order (d + 4) [vr (mR M32 z 4), vr (mR M32 z 5)] M32 (fun x37 M36 => i32 x37 ∧ mOk M36 ∧ (NL L W (Tor z) (fun _ => False) False z M M36 ∧ (x37 = -1 ∨ x37 = 0 ∨ x37 = 1) ∧ orQ (mI M f' 2 * nv M (z + 9)) (mI M f 2 * nv M (z + 11)) x37)))))) := by
  obtain ⟨⟨k1, k2, k3⟩, ⟨r4, r5⟩, -, m9, m11, mf1, mf3, mg1, mg3⟩ := h.pl
  rw [r4]
  refine ⟨k1, k3, h.2.1.kd m9, (f_multiply (d := d + 2) t1 h.1 h.2.1 m9 s1).mono (fun M26 k => ?_)⟩
  obtain ⟨c1, v1⟩ := k
  obtain ⟨n1, H1⟩ := h.st (Or.inl rfl) c1
  obtain ⟨⟨k1, k2, k3⟩, ⟨r4, r5⟩, -⟩ := H1.pl
  have e2 : mI M26 f = mI M f := (n1.frp h.2.1 h.2.2.2.1.1).2 (fun e => e)
  have z11 := (c1.num h.2.1 m11 (nez (by decide))).2.2.2.1
  have z11v := (c1.num h.2.1 m11 (nez (by decide))).2.2.2.2.1
  rw [r5, e2]
  refine ⟨H1.1, k1, k2, H1.2.1.kd m11, (f_multiply (d := d + 2) t2 H1.1 H1.2.1 m11 (by rw [z11]; exact s2)).mono (fun M32 k => ?_)⟩
  obtain ⟨c2, v2⟩ := k
  obtain ⟨n2, H2⟩ := H1.st (Or.inr rfl) c2
  obtain ⟨⟨k1, k2, k3⟩, ⟨r4, r5⟩, -⟩ := H2.pl
  rw [r4, r5]
  refine ⟨H2.1, k1, (f_order (d := d + 4) H2.1 H2.2.1 m9 m11).mono (fun x M36 k => ?_)⟩
  obtain ⟨e, ox⟩ := k
  rw [e]
  have xx : x = -1 ∨ x = 0 ∨ x = 1 := by unfold orQ at ox; omega
  rw [c2.v H1.2.1 m9 (nez (by decide)), v1, v2, z11v] at ox
  exact ⟨by rcases xx with e | e | e <;> rw [e] <;> exact ⟨by decide, by decide⟩, H2.1, n1.trans n2, xx, ox⟩
/-- two fractions are compared -/
theorem f_Sc_orderX (h : Ors L W z f f' M) (o1 : Osz M f s) (o2 : Osz M f' s) (nf : ¬ Tor z (f + 1) ∧ ¬ Tor z (f + 3)) (nf' : ¬ Tor z (f' + 1) ∧ ¬ Tor z (f' + 3)) (w9 : 2 * s + 1 ≤ W (z + 9)) (w11 : 2 * s + 1 ≤ W (z + 11)) : Ci G y_Sc_order (d + 5) [vr z, vr f, vr f'] M (fun x M' => NL L W (Tor z) (fun _ => False) False z M M' ∧ (x = -1 ∨ x = 0 ∨ x = 1) ∧ (0 < nv M (f + 3) → 0 < nv M (f' + 3) → orR (fq9 M f) (fq9 M f') x)) := by
  obtain ⟨⟨k1, k2, k3⟩, ⟨r4, r5⟩, ⟨⟨f0, f1⟩, g0, g1⟩, m9, m11, mf1, mf3, mg1, mg3⟩ := h.pl
  obtain ⟨a1, a2, a3⟩ := o1
  obtain ⟨b1, b2, b3⟩ := o2
  have e9f1 : z + 9 ≠ f + 1 := fun e => nf.1 (Or.inl e.symm)
  have e11f3 : z + 11 ≠ f + 3 := fun e => nf.2 (Or.inr e.symm)
  have e9g3 : z + 9 ≠ f' + 3 := fun e => nf'.2 (Or.inl e.symm)
  have e11g1 : z + 11 ≠ f' + 1 := fun e => nf'.1 (Or.inr e.symm)
  have hF := h.2.1
  have fin : ∀ {x : Int}, orQ (nv M (f + 1) * (mI M f' 2 * nv M (f' + 3))) (nv M (f' + 1) * (mI M f 2 * nv M (f + 3))) x → 0 < nv M (f + 3) → 0 < nv M (f' + 3) → orR (fq9 M f) (fq9 M f') x := fun o d1 d2 => by
    have p1 := Int.mul_pos (show 0 < mI M f 2 by omega) d1
    have p2 := Int.mul_pos (show 0 < mI M f' 2 by omega) d2
    exact or_rat p1 p2 (fq_mul p1) (fq_mul p2) o
  refine k_Sc_order h.1 ?_
  rw [f1, g1]
  refine ⟨k2, k3, (f_order (d := d + 4) h.1 hF mf3 mg3).mono (fun x4 M3 k => ?_)⟩
  obtain ⟨e3, ox⟩ := k
  rw [e3, r4]
  refine ⟨by unfold orQ at ox; exact ⟨by omega, by omega⟩, h.1, fun x0 => ⟨k1, k2, hF.kd m9, ?_⟩, fun _ => ⟨k1, k2, k3, hF.kd m9, ?_⟩⟩
  · rw [f0]
    refine (f_put1 (d := d + 3) h.1 hF m9 mf1 e9f1 (by omega)).mono (fun M14 k => ?_)
    obtain ⟨c1, v1⟩ := k
    obtain ⟨n1, H1⟩ := h.st (Or.inl rfl) c1
    obtain ⟨⟨k1, k2, k3⟩, ⟨r4, r5⟩, ⟨⟨f0, f1⟩, g0, g1⟩, -⟩ := H1.pl
    have s9 : sz M14 (z + 9) ≤ s := H1.2.1.szv m9 (by rw [v1]; exact Int.lt_of_lt_of_le (hF.vlt mf1) (p30m a1))
    have sg := (n1.num hF mg1 nf'.1).2
    rw [r5, g0]
    refine ⟨H1.1, k1, k3, H1.2.1.kd m11, (f_put1 (d := d + 3) H1.1 H1.2.1 m11 mg1 e11g1 (by omega)).mono (fun M20 k => ?_)⟩
    obtain ⟨c2, v2⟩ := k
    obtain ⟨n2, H2⟩ := H1.st (Or.inr rfl) c2
    have N2 := n1.trans n2
    have s11 : sz M20 (z + 11) ≤ s := H2.2.1.szv m11 (by rw [v2, sg.2]; exact Int.lt_of_lt_of_le (hF.vlt mg1) (p30m b1))
    have s9' := (c2.num H1.2.1 m9 (nez (by decide))).2.2.2.1
    have ef := (N2.frp hF h.2.2.2.1.1).2 (fun e => e)
    have eg := (N2.frp hF h.2.2.2.2.1).2 (fun e => e)
    obtain ⟨q1, q2, q3, q4⟩ := s_orEnd (G := G) (d := d) H2 (by rw [eg]; exact b3) (by rw [ef]; exact a3) (by omega) (by omega)
    exact ⟨H2.1, q1, q2, q3, q4.mono (fun M26 ⟨p1, p2, p3, p4, p5⟩ => ⟨p1, p2, p3, p4, p5.mono (fun M32 ⟨p6, p7, p8⟩ => ⟨p6, p7, p8.mono (fun x M36 ⟨p9, p10, p11, p12, p13⟩ => ⟨p9, p10, N2.trans p11, p12, fun d1 d2 => fin (by
      have ed : nv M (f' + 3) = nv M (f + 3) := by
        unfold orQ at ox
        omega
      rw [eg, ef, v2, sg.2, c2.v H1.2.1 m9 (nez (by decide)), v1] at p13
      have o := orQ_mul d1 p13
      rw [ed]
      rw [show nv M (f + 1) * (mI M f' 2 * nv M (f + 3)) = mI M f' 2 * nv M (f + 1) * nv M (f + 3) by grind, show nv M (f' + 1) * (mI M f 2 * nv M (f + 3)) = mI M f 2 * nv M (f' + 1) * nv M (f + 3) by grind]
      exact o) d1 d2⟩)⟩)⟩)⟩
  · rw [f0, g1]
    refine (f_putProduct (d := d + 1) h.1 hF m9 mf1 mg3 e9f1 e9g3 (by omega)).mono (fun M14 k => ?_)
    obtain ⟨c1, v1⟩ := k
    obtain ⟨n1, H1⟩ := h.st (Or.inl rfl) c1
    obtain ⟨⟨k1, k2, k3⟩, ⟨r4, r5⟩, ⟨⟨f0, f1⟩, g0, g1⟩, -⟩ := H1.pl
    have s9 : sz M14 (z + 9) ≤ s + s := H1.2.1.szv m9 (by rw [v1]; exact pb ⟨hF.nn0 mf1, Int.lt_of_lt_of_le (hF.vlt mf1) (p30m a1)⟩ ⟨hF.nn0 mg3, Int.lt_of_lt_of_le (hF.vlt mg3) (p30m b2)⟩)
    have sg := (n1.num hF mg1 nf'.1).2
    have sf := (n1.num hF mf3 nf.2).2
    rw [r5, g0, f1]
    refine ⟨H1.1, k1, k3, k2, H1.2.1.kd m11, (f_putProduct (d := d + 1) H1.1 H1.2.1 m11 mg1 mf3 e11g1 e11f3 (by omega)).mono (fun M20 k => ?_)⟩
    obtain ⟨c2, v2⟩ := k
    obtain ⟨n2, H2⟩ := H1.st (Or.inr rfl) c2
    have N2 := n1.trans n2
    have s11 : sz M20 (z + 11) ≤ s + s := H2.2.1.szv m11 (by rw [v2, sg.2, sf.2]; exact pb ⟨hF.nn0 mg1, Int.lt_of_lt_of_le (hF.vlt mg1) (p30m b1)⟩ ⟨hF.nn0 mf3, Int.lt_of_lt_of_le (hF.vlt mf3) (p30m a2)⟩)
    have s9' := (c2.num H1.2.1 m9 (nez (by decide))).2.2.2.1
    have ef := (N2.frp hF h.2.2.2.1.1).2 (fun e => e)
    have eg := (N2.frp hF h.2.2.2.2.1).2 (fun e => e)
    obtain ⟨q1, q2, q3, q4⟩ := s_orEnd (G := G) (d := d) H2 (by rw [eg]; exact b3) (by rw [ef]; exact a3) (by omega) (by omega)
    exact ⟨H2.1, q1, q2, q3, q4.mono (fun M26 ⟨p1, p2, p3, p4, p5⟩ => ⟨p1, p2, p3, p4, p5.mono (fun M32 ⟨p6, p7, p8⟩ => ⟨p6, p7, p8.mono (fun x M36 ⟨p9, p10, p11, p12, p13⟩ => ⟨p9, p10, N2.trans p11, p12, fun d1 d2 => fin (by
      rw [eg, ef, v2, sg.2, sf.2, c2.v H1.2.1 m9 (nez (by decide)), v1] at p13
      rw [show nv M (f + 1) * (mI M f' 2 * nv M (f' + 3)) = mI M f' 2 * (nv M (f + 1) * nv M (f' + 3)) by grind, show nv M (f' + 1) * (mI M f 2 * nv M (f + 3)) = mI M f 2 * (nv M (f' + 1) * nv M (f + 3)) by grind]
      exact p13) d1 d2⟩)⟩)⟩)⟩
theorem f_Sc_order (h : Ors L W z f f' M) (o1 : Osz M f s) (o2 : Osz M f' s) (nf : ¬ Tor z (f + 1) ∧ ¬ Tor z (f + 3)) (nf' : ¬ Tor z (f' + 1) ∧ ¬ Tor z (f' + 3)) (w9 : 2 * s + 1 ≤ W (z + 9)) (w11 : 2 * s + 1 ≤ W (z + 11)) : Ci G y_Sc_order (d + 5) [vr z, vr f, vr f'] M (fun x M' => NL L W (Tor z) (fun _ => False) False z M M' ∧ (x = -1 ∨ x = 0 ∨ x = 1)) := (f_Sc_orderX h o1 o2 nf nf' w9 w11).mono (fun x M' k => ⟨k.1, k.2.1⟩)
end NAX
end
