section
section
variable {G : mG} {d z r w T A B D N C n p O P K k a s L L' V F d0 c : Nat} {M0 M M' M1 M2 : mM} {H H' : Nat → Nat} {ns : Nat → Int} {wt : Int}
/-- the operation that was open last is closed -/
theorem RG.popc (g : RG M r p O P n s V F ns d0 H L (k + 1) a 0) (hr : mI M' r 2 = (a : Int) + 1 ∧ mI M' r 12 = k ∧ mI M' r 7 = 0 ∧ mI M' r 14 = ((1 + skk M r k : Nat) : Int) ∧ mI M' r 5 = ((d0 + sdp M r k : Nat) : Int)) (l1 : ∀ j, j < k → mI M' (r + 1) j = mI M (r + 1) j) (l2 : ∀ j, j < k → mI M' (r + 2) j = mI M (r + 2) j) (l3 : ∀ j, j < k → mI M' (r + 3) j = mI M (r + 3) j) (l4 : ∀ j, j < k → mI M' (r + 4) j = mI M (r + 4) j) (t5 : ∀ j, mI M' (r + 5) j = 0 ∨ mI M' (r + 5) j = 1) (tp : mI M' p 2 = L') (hLL : L ≤ L') (hO : ∀ j, j < L → mI M' O j = mI M O j) (hHs : ∀ i, i ≤ L → H' i = H i) (hH : H' L' = 1 + bs M r k) (hb : H' L' + s ≤ L') (hC : CO M' O P V F ns H' s L' (pdg M' r k)) (hL : L' + se M r k ≤ a + 1) (han : a < n) : RG M' r p O P n s V F ns d0 H' L' k (a + 1) 0 := by
  obtain ⟨-, -, ⟨ga, gs⟩, -, ⟨-, gd4⟩, gr, ge, -, -, -, -⟩ := g
  have sm := fun i hi => sums_cg (M := M) (M' := M') (r := r) (k := k) l1 l4 i hi
  obtain ⟨-, -, -, b4⟩ := sum_top M r k
  obtain ⟨h1, h2, h3, h4, h5⟩ := hr
  have u0 : uw 0 = 1 := rfl
  refine ⟨⟨by omega, h2, h3, tp⟩, Or.inl rfl, ⟨by omega, by omega⟩, by rw [h4, (sm k (Nat.le_refl _)).2.1, u0], ⟨by rw [h5, (sm k (Nat.le_refl _)).2.2.2], by rw [(sm k (Nat.le_refl _)).2.2.2]; omega⟩, fun i hi => by rw [(sm (i + 1) (by omega)).2.2.2, l1 i hi]; exact gr i (by omega), fun i hi => (ge i (by omega)).cg (fun j _ => l1 j (by omega)) (l2 i hi) (l3 i hi) (fun j _ => l4 j (by omega)) hLL hO hHs, ⟨by rw [hH, (sm k (Nat.le_refl _)).1, u0], hb⟩, hC, by rw [(sm k (Nat.le_refl _)).2.2.1]; omega, t5⟩
/-- the operation that was open last goes on: o' and marks m' stand there now -/
theorem RG.goes {o' m' : Int} (g : RG M r p O P n s V F ns d0 H L (k + 1) a 0) (hr : mI M' r 2 = (a : Int) + 1 ∧ mI M' r 12 = (k : Int) + 1 ∧ mI M' r 7 = 1 ∧ mI M' r 14 = ((skk M r k : Nat) : Int) ∧ mI M' r 5 = ((d0 + sdp M r (k + 1) : Nat) : Int)) (l1 : ∀ j, mI M' (r + 1) j = if j = k then o' else mI M (r + 1) j) (l2 : ∀ j, mI M' (r + 2) j = mI M (r + 2) j) (l3 : ∀ j, j < k → mI M' (r + 3) j = mI M (r + 3) j) (l4 : ∀ j, mI M' (r + 4) j = if j = k then m' else mI M (r + 4) j) (t5 : ∀ j, mI M' (r + 5) j = 0 ∨ mI M' (r + 5) j = 1) (tp : mI M' p 2 = L') (hLL : L ≤ L') (hO : ∀ j, j < L → mI M' O j = mI M O j) (hHs : ∀ i, i ≤ L → H' i = H i) (hH : H' L' = bs M r k + cm o' m') (hb : H' L' + s ≤ L') (hC : CO M' O P V F ns H' s L' (pdg M' r (k + 1))) (hL : L' + se M r k ≤ a + 1) (han : a < n) (hk : ckk o' = 0 ∧ cee o' = 0 ∧ cdp o' = cdp (mI M (r + 1) k) ∧ rkk o' = rkk (mI M (r + 1) k)) (hen : enO M' r O s L' H' k) : RG M' r p O P n s V F ns d0 H' L' (k + 1) (a + 1) 1 := by
  obtain ⟨-, -, ⟨ga, gs⟩, -, ⟨-, gd4⟩, gr, ge, -, -, -, -⟩ := g
  have e1 : ∀ j, j < k → mI M' (r + 1) j = mI M (r + 1) j := fun j hj => by rw [l1, if_neg (by omega)]
  have e4 : ∀ j, j < k → mI M' (r + 4) j = mI M (r + 4) j := fun j hj => by rw [l4, if_neg (by omega)]
  have sm := fun i hi => sums_cg (M := M) (M' := M') (r := r) (k := k) e1 e4 i hi
  obtain ⟨-, -, -, b4⟩ := sum_top M r k
  obtain ⟨c1, c2, c3, c4⟩ := sum_top M' r k
  rw [l1, if_pos rfl, (sm k (Nat.le_refl _)).2.1, hk.1] at c2
  rw [l1, if_pos rfl, (sm k (Nat.le_refl _)).2.2.1, hk.2.1] at c3
  rw [l1, if_pos rfl, (sm k (Nat.le_refl _)).2.2.2, hk.2.2.1, ← b4] at c4
  rw [l1, if_pos rfl, l4, if_pos rfl, (sm k (Nat.le_refl _)).1] at c1
  obtain ⟨h1, h2, h3, h4, h5⟩ := hr
  have u1 : uw 1 = 0 := rfl
  refine ⟨⟨by omega, by omega, h3, tp⟩, Or.inr rfl, ⟨by omega, by omega⟩, by rw [h4, c2]; omega, ⟨by rw [h5, c4], by rw [c4]; exact gd4⟩, fun i hi => ?_, fun i hi => ?_, ⟨by rw [hH, c1]; omega, hb⟩, hC, by rw [c3]; omega, t5⟩
  · by_cases y : i = k
    · subst y
      rw [c4, l1, if_pos rfl, hk.2.2.2]
      exact gr i (by omega)
    · rw [(sm (i + 1) (by omega)).2.2.2, e1 i (by omega)]
      exact gr i (by omega)
  · by_cases y : i = k
    · subst y
      exact hen
    · exact (ge i (by omega)).cg (fun j hj => e1 j (by omega)) (l2 i) (l3 i (by omega)) (fun j hj => e4 j (by omega)) hLL hO hHs
/-- marks of a list: bit 2 -/
theorem mk_or {m v : Int} (hm : 0 ≤ m ∧ m ≤ 3) (hv : v = 0 ∨ v = 1) : orI m (orI 2 v) = 2 ∨ orI m (orI 2 v) = 3 := by
  have : m = 0 ∨ m = 1 ∨ m = 2 ∨ m = 3 := by omega
  rcases this with e | e | e | e <;> rcases hv with f | f <;> subst e <;> subst f <;> decide
theorem mk_and2 {m : Int} (hm : 0 ≤ m ∧ m ≤ 3) : (andI m 2 = 0 ∧ ¬ (m = 2 ∨ m = 3)) ∨ (andI m 2 ≠ 0 ∧ (m = 2 ∨ m = 3)) := by
  have : m = 0 ∨ m = 1 ∨ m = 2 ∨ m = 3 := by omega
  rcases this with e | e | e | e <;> subst e <;> decide
theorem mk_or4 {m v : Int} (hm : 0 ≤ m ∧ m ≤ 7) (hv : v = 0 ∨ v = 4) : 0 ≤ orI m v ∧ orI m v ≤ 7 := by
  have : m = 0 ∨ m = 1 ∨ m = 2 ∨ m = 3 ∨ m = 4 ∨ m = 5 ∨ m = 6 ∨ m = 7 := by omega
  rcases this with e | e | e | e | e | e | e | e <;> rcases hv with f | f <;> subst e <;> subst f <;> decide
end
end
