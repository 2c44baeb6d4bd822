/-! The Scales: what weighing comes to, as a number. -/
section WVS
variable {M0 M M' : mM} {R g x y c w f n m t j cn bc : Nat} {sh : Int} {v fv' : Rat}
/-- a row's number -/
def rwv (M : mM) (R t : Nat) : Rat := (nv M (mR M R t + 1) : Rat) * (nv M (mR M R t + 3) : Rat)⁻¹
/-- shares times rows -/
def wsv (M : mM) (R g x : Nat) : Nat → Rat
  | 0 => 0
  | n + 1 => wsv M R g x n + (mI M (g + 9) (x + n) : Rat) * rwv M R (mI M (g + 8) (x + n)).toNat
/-- a fraction's number -/
def fq9 (M : mM) (f : Nat) : Rat := (nv M (f + 1) : Rat) * ((mI M f 2 * nv M (f + 3) : Int) : Rat)⁻¹
theorem wsL_snoc {f : Nat → Rat} {b : Nat × Int} : ∀ l : List (Nat × Int), wsL9 f (l ++ [b]) = wsL9 f l + (b.2 : Rat) * f b.1
  | [] => by
    show (b.2 : Rat) * f b.1 + 0 = 0 + (b.2 : Rat) * f b.1
    grind
  | a :: l => by
    have h := wsL_snoc (f := f) (b := b) l
    show (a.2 : Rat) * f a.1 + wsL9 f (l ++ [b]) = ((a.2 : Rat) * f a.1 + wsL9 f l) + (b.2 : Rat) * f b.1
    rw [h]
    grind
theorem wsL_brl : ∀ n, wsL9 (rwv M R) (brl M g x n) = wsv M R g x n
  | 0 => rfl
  | n + 1 => by
    have h := wsL_brl n
    show wsL9 (rwv M R) (brl M g x n ++ [((mI M (g + 8) (x + n)).toNat, mI M (g + 9) (x + n))]) = wsv M R g x n + (mI M (g + 9) (x + n) : Rat) * rwv M R (mI M (g + 8) (x + n)).toNat
    rw [wsL_snoc, h]
theorem cmm_ws (e1 : mI M (g + 7) c = ((x : Nat) : Int)) (e2 : mI M (g + 7) (c + 1) = ((y : Nat) : Int)) : wsL9 (rwv M R) (cmm M g c).2.2 = wsv M R g x (y - x) := by
  show wsL9 (rwv M R) (brl M g (mI M (g + 7) c).toNat ((mI M (g + 7) (c + 1)).toNat - (mI M (g + 7) c).toNat)) = wsv M R g x (y - x)
  rw [e1, e2, Int.toNat_natCast, Int.toNat_natCast]
  exact wsL_brl _
theorem brl_same (e : ∀ i, i ≤ 9 → mI M' (g + i) = mI M (g + i)) : ∀ n, brl M' g x n = brl M g x n
  | 0 => rfl
  | n + 1 => by
    have h := brl_same e n
    show brl M' g x n ++ [((mI M' (g + 8) (x + n)).toNat, mI M' (g + 9) (x + n))] = brl M g x n ++ [((mI M (g + 8) (x + n)).toNat, mI M (g + 9) (x + n))]
    rw [h, e 8 (by decide), e 9 (by decide)]
theorem cmm_same (e : ∀ i, i ≤ 9 → mI M' (g + i) = mI M (g + i)) : cmm M' g c = cmm M g c := by
  unfold cmm
  rw [e 5 (by decide), e 6 (by decide), e 7 (by decide), brl_same e]
theorem cmm_lt (h : cmdG M g cn bc c) : ∀ b, b ∈ (cmm M g c).2.2 → b.1 < cn := by
  obtain ⟨x, y, mu, c1, c2, c3, c4, c5, -⟩ := h
  intro b hb
  have bl : (cmm M g c).2.2 = (List.range (y - x)).map (fun t => ((mI M (g + 8) (x + t)).toNat, mI M (g + 9) (x + t))) := by
    unfold cmm
    rw [c1, c2, Int.toNat_natCast, Int.toNat_natCast, brl_map]
  rw [bl] at hb
  obtain ⟨t, t1, t2⟩ := List.mem_map.mp hb
  have t3 := List.mem_range.mp t1
  have t4 := c5 (x + t) (by omega) (by omega)
  rw [← t2]
  show (mI M (g + 8) (x + t)).toNat < cn
  omega
theorem rwv_mul (h : 0 < nv M (mR M R t + 3)) : (nv M (mR M R t + 1) : Rat) = rwv M R t * (nv M (mR M R t + 3) : Rat) := by
  have e := Rat.inv_mul_cancel _ (ic_ne h)
  unfold rwv
  generalize (nv M (mR M R t + 3) : Rat) = b at *
  generalize (nv M (mR M R t + 1) : Rat) = a at *
  generalize b⁻¹ = c at *
  grind
theorem rwv_cg (eR : mR M' R = mR M R) (e1 : nv M' (mR M R j + 1) = nv M (mR M R j + 1)) (e3 : nv M' (mR M R j + 3) = nv M (mR M R j + 3)) : rwv M' R j = rwv M R j := by
  unfold rwv
  rw [eR, e1, e3]
/-- a fraction crossed -/
theorem rat_cross {A V a b : Int} (hV : 0 < V) (e : a * V = A * b) : (A : Rat) * (V : Rat)⁻¹ * (b : Rat) = (a : Rat) := by
  have e1 : (a : Rat) * (V : Rat) = (A : Rat) * (b : Rat) := by rw [← Rat.intCast_mul, ← Rat.intCast_mul, e]
  have e2 := Rat.mul_inv_cancel _ (ic_ne hV)
  generalize (V : Rat)⁻¹ = i at *
  generalize (V : Rat) = V at *
  generalize (A : Rat) = A at *
  generalize (a : Rat) = a at *
  generalize (b : Rat) = b at *
  have e3 : A * i * b = a * (V * i) := by grind
  rw [e3, e2]
  grind
theorem fq_mul (h : 0 < mI M f 2 * nv M (f + 3)) : fq9 M f * ((mI M f 2 * nv M (f + 3) : Int) : Rat) = (nv M (f + 1) : Rat) := by
  unfold fq9
  exact rat_cross h rfl
/-- a worth on its way -/
def wgV (M0 : mM) (R cn w : Nat) (v : Rat) (M : mM) : Prop := Rle M0 R cn → (nv M (w + 1) : Rat) = v * (nv M (w + 3) : Rat)
theorem wv_skip {Fa V : Int} (h : wgV M0 R cn w v M) (e : Rle M0 R cn → (Fa : Rat) = fv' * (V : Rat)) (hF : Fa = 0) (hV : Rle M0 R cn → 0 < V) : wgV M0 R cn w (v + (sh : Rat) * fv') M := fun q => by
  have e1 := e q
  have e2 := Rat.mul_inv_cancel _ (ic_ne (hV q))
  have e3 : ((0 : Int) : Rat) = 0 := rfl
  rw [hF, e3] at e1
  have e4 : fv' = 0 := by
    generalize (V : Rat)⁻¹ = i at *
    generalize (V : Rat) = V at *
    have e5 : fv' * (V * i) = fv' * V * i := by grind
    rw [e2, ← e1] at e5
    grind
  rw [h q, e4]
  grind
theorem wv_same {Fa : Int} (h : wgV M0 R cn w v M) (e1 : nv M' (w + 1) = nv M (w + 1) + sh * Fa) (e3 : nv M' (w + 3) = nv M (w + 3)) (e : Rle M0 R cn → (Fa : Rat) = fv' * (nv M (w + 3) : Rat)) : wgV M0 R cn w (v + (sh : Rat) * fv') M' := fun q => by
  rw [e1, e3, Rat.intCast_add, Rat.intCast_mul, h q, e q]
  grind
theorem wv_diff {Fa V Q1 Q2 r : Int} (h : wgV M0 R cn w v M) (e1 : nv M' (w + 1) = nv M (w + 1) * Q2 + sh * (Fa * Q1)) (e3 : nv M' (w + 3) = nv M (w + 3) * Q2) (eU : nv M (w + 3) = r * Q1) (eV : V = r * Q2) (e : Rle M0 R cn → (Fa : Rat) = fv' * (V : Rat)) : wgV M0 R cn w (v + (sh : Rat) * fv') M' := fun q => by
  have h1 : (nv M' (w + 1) : Rat) = (nv M (w + 1) : Rat) * (Q2 : Rat) + (sh : Rat) * ((Fa : Rat) * (Q1 : Rat)) := by rw [e1, Rat.intCast_add, Rat.intCast_mul, Rat.intCast_mul, Rat.intCast_mul]
  have h3 : (nv M' (w + 3) : Rat) = (nv M (w + 3) : Rat) * (Q2 : Rat) := by rw [e3, Rat.intCast_mul]
  have hU : (nv M (w + 3) : Rat) = (r : Rat) * (Q1 : Rat) := by rw [eU, Rat.intCast_mul]
  have hV : (V : Rat) = (r : Rat) * (Q2 : Rat) := by rw [eV, Rat.intCast_mul]
  rw [h1, h3, h q, e q, hU, hV]
  grind
/-- a worth that was weighed, as a number -/
def BsV (M0 : mM) (R cn : Nat) (M : mM) (b : Nat) (v : Rat) : Prop := Rle M0 R cn → fq9 M b = v
theorem BsV.cg {b : Nat} (h : BsV M0 R cn M b v) (e1 : nv M' (b + 1) = nv M (b + 1)) (e3 : nv M' (b + 3) = nv M (b + 3)) (e2 : mI M' b = mI M b) : BsV M0 R cn M' b v := fun q => by
  have := h q
  unfold fq9 at this ⊢
  rw [e1, e3, e2]
  exact this
theorem wv_bs {mu : Int} (h : wgV M0 R cn w v M) (hm : 0 < mu) (tt : mI M w 2 = mu) (hU : Rle M0 R cn → 0 < nv M (w + 3)) : BsV M0 R cn M w (v * (mu : Rat)⁻¹) := fun q => by
  have e1 := Rat.mul_inv_cancel _ (ic_ne (hU q))
  have e2 := Rat.mul_inv_cancel _ (ic_ne hm)
  have e3 := Rat.mul_inv_cancel _ (ic_ne (Int.mul_pos hm (hU q)))
  unfold fq9
  rw [tt, h q]
  rw [Rat.intCast_mul] at e3 ⊢
  generalize ((mu : Rat) * (nv M (w + 3) : Rat))⁻¹ = k at *
  generalize (mu : Rat)⁻¹ = i at *
  generalize (nv M (w + 3) : Rat)⁻¹ = l at *
  generalize (nv M (w + 3) : Rat) = U at *
  generalize (mu : Rat) = m at *
  have e4 : v * U * k * (m * i) = v * i * (m * U * k) := by grind
  rw [e2, e3] at e4
  grind
/-- two numbers compared -/
def orR (p q : Rat) (x : Int) : Prop := (x = 0 ∧ p = q) ∨ (x = 1 ∧ q < p) ∨ (x = -1 ∧ p < q)
theorem orQ_mul {a b V x : Int} (hV : 0 < V) (h : orQ a b x) : orQ (a * V) (b * V) x := by
  rcases h with ⟨x0, e⟩ | ⟨x0, e⟩ | ⟨x0, e⟩
  · exact Or.inl ⟨x0, by rw [e]⟩
  · exact Or.inr (Or.inl ⟨x0, Int.mul_lt_mul_of_pos_right e hV⟩)
  · exact Or.inr (Or.inr ⟨x0, Int.mul_lt_mul_of_pos_right e hV⟩)
theorem or_rat {p q : Rat} {A B X Y x : Int} (hX : 0 < X) (hY : 0 < Y) (e1 : p * (X : Rat) = (A : Rat)) (e2 : q * (Y : Rat) = (B : Rat)) (o : orQ (A * Y) (B * X) x) : orR p q x := by
  have q1 : (0 : Rat) < (X : Rat) := Rat.intCast_pos.2 hX
  have q2 : (0 : Rat) < (Y : Rat) := Rat.intCast_pos.2 hY
  have hp := Rat.mul_pos q1 q2
  have c1 : ((A * Y : Int) : Rat) = p * ((X : Rat) * (Y : Rat)) := by rw [Rat.intCast_mul, ← e1]; grind
  have c2 : ((B * X : Int) : Rat) = q * ((X : Rat) * (Y : Rat)) := by rw [Rat.intCast_mul, ← e2]; grind
  clear e1 e2 q1 q2
  generalize (X : Rat) * (Y : Rat) = P at *
  have lt : ∀ {u w : Rat}, u * P < w * P → u < w := fun {u w} h => by
    refine Classical.byContradiction (fun n => ?_)
    have a := Rat.mul_nonneg (a := u - w) (b := P) (by grind) (Rat.le_of_lt hp)
    grind
  rcases o with ⟨x0, e⟩ | ⟨x0, e⟩ | ⟨x0, e⟩
  · refine Or.inl ⟨x0, ?_⟩
    have h' : ((A * Y : Int) : Rat) = ((B * X : Int) : Rat) := by rw [e]
    rw [c1, c2] at h'
    have i := Rat.mul_inv_cancel P (by grind)
    have e' : p * P * P⁻¹ = q * P * P⁻¹ := by rw [h']
    grind
  · refine Or.inr (Or.inl ⟨x0, lt ?_⟩)
    rw [← c1, ← c2]
    exact ic_lt.2 e
  · refine Or.inr (Or.inr ⟨x0, lt ?_⟩)
    rw [← c1, ← c2]
    exact ic_lt.2 e
end WVS
