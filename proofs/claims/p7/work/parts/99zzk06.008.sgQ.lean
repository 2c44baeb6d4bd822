section
section
variable {G : mG} {d z r w T A B D N C n p O P K k a s L V F d0 c : Nat} {M0 M M' M1 M2 : mM} {H H' : Nat → Nat} {ns : Nat → Int} {wt : Int}
theorem rk_lvl (o : Int) : ((lvl o = 0 ∨ lvl o = 3) ∧ rkk o = 0) ∨ (lvl o = 1 ∧ rkk o = 1) ∨ (lvl o = 2 ∧ rkk o = 2) ∨ (lvl o = 4 ∧ rkk o = 3) ∨ (lvl o = 5 ∧ rkk o = 4) ∨ (lvl o = 6 ∧ rkk o = 5) := by
  unfold lvl rkk
  (repeat' split) <;> omega
/-- an operation with an order of its own that may jump is open now -/
theorem RG.pshj {o pl mk : Int} {dd c' : Nat} (g : RG M r p O P n s V F ns d0 H L k a 0) (hr : ∀ i, mI M' r i = if i = 2 then (a : Int) + 1 else if i = 7 then 1 else if i = 12 then (k : Int) + 1 else if i = 5 then (dd : Int) else if i = 14 then (c' : Int) else mI M r i) (t1 : ∀ i, mI M' (r + 1) i = if i = k then o else mI M (r + 1) i) (t2 : ∀ i, mI M' (r + 2) i = if i = k then pl else mI M (r + 2) i) (t3 : ∀ i, mI M' (r + 3) i = if i = k then (L : Int) else mI M (r + 3) i) (t4 : ∀ i, mI M' (r + 4) i = if i = k then mk else mI M (r + 4) i) (t5 : ∀ j, mI M' (r + 5) j = 0 ∨ mI M' (r + 5) j = 1) (tp : mI M' p 2 = (L : Int) + 1) (tO : ∀ i, mI M' O i = if i = L then o else mI M O i) (tP : ∀ i, mI M' P i = if i = L then 0 else mI M P i) (ho : o = 30 ∨ o = 31 ∨ o = 33) (hpl : 0 ≤ pl ∧ pl ≤ 16384) (hmk : 0 ≤ mk ∧ mk ≤ 7) (hd : dd = d0 + sdp M r k + cdp o) (hd4 : dd ≤ 40) (hrk : k + 1 ≤ 6 * (sdp M r k + cdp o) + rkk o) (hc : c' = skk M r k + ckk o) (han : a < n) (hat : o = 33 → aO M' r k) : ∃ H', RG M' r p O P n s V F ns d0 H' (L + 1) (k + 1) (a + 1) 1 ∧ ∀ i, i ≤ L → H' i = H i := by
  obtain ⟨⟨g1, g2, g3, g4⟩, gw, ⟨ga, gs⟩, gc, ⟨gd, gd4⟩, gr, ge, ⟨gH, gHs⟩, gC, gL, gt⟩ := g
  have l1 : ∀ j, j < k → mI M' (r + 1) j = mI M (r + 1) j := fun j hj => by rw [t1, if_neg (by omega)]
  have l2 : ∀ j, j < k → mI M' (r + 2) j = mI M (r + 2) j := fun j hj => by rw [t2, if_neg (by omega)]
  have l3 : ∀ j, j < k → mI M' (r + 3) j = mI M (r + 3) j := fun j hj => by rw [t3, if_neg (by omega)]
  have l4 : ∀ j, j < k → mI M' (r + 4) j = mI M (r + 4) j := fun j hj => by rw [t4, if_neg (by omega)]
  have sm := fun i hi => sums_cg (M := M) (M' := M') (r := r) (k := k) l1 l4 i hi
  obtain ⟨b1, b2, b3, b4⟩ := sum_top M' r k
  rw [t1, if_pos rfl, (sm k (Nat.le_refl _)).2.1] at b2
  rw [t1, if_pos rfl, (sm k (Nat.le_refl _)).2.2.1] at b3
  rw [t1, if_pos rfl, (sm k (Nat.le_refl _)).2.2.2] at b4
  rw [t1, if_pos rfl, t4, if_pos rfl, (sm k (Nat.le_refl _)).1] at b1
  have u1 : uw 1 = 0 := rfl
  have u0 : uw 0 = 1 := rfl
  have c0 : cm o mk = 0 := by
    unfold cm
    rw [if_neg (by omega), if_neg (by omega)]
  have e0 : cee o = 0 := by
    unfold cee
    rw [if_neg (by omega)]
  have jo : jm o := by unfold jm; omega
  obtain ⟨H', hH'⟩ : ∃ H' : Nat → Nat, ∀ i, H' i = if i = L + 1 then bs M r k else H i := ⟨fun i => if i = L + 1 then bs M r k else H i, fun _ => rfl⟩
  have hHs : ∀ i, i ≤ L → H' i = H i := fun i hi => by rw [hH', if_neg (by omega)]
  have hHL : H' (L + 1) = bs M r k := by rw [hH', if_pos rfl]
  have hL0 := hHs L (Nat.le_refl _)
  refine ⟨H', ⟨⟨by rw [hr, if_pos rfl]; omega, by rw [hr, if_neg (by decide), if_neg (by decide), if_pos rfl]; omega, by rw [hr, if_neg (by decide), if_pos rfl], by rw [tp]; omega⟩, Or.inr rfl, ⟨by omega, by omega⟩, by rw [hr, if_neg (by decide), if_neg (by decide), if_neg (by decide), if_neg (by decide), if_pos rfl, b2]; omega, ⟨by rw [hr, if_neg (by decide), if_neg (by decide), if_neg (by decide), if_pos rfl, b4]; omega, by omega⟩, fun i hi => ?_, fun i hi => ?_, ⟨by omega, by omega⟩, ?_, by omega, t5⟩, hHs⟩
  · by_cases y : i = k
    · subst y
      rw [b4, t1, if_pos rfl]
      exact hrk
    · rw [(sm (i + 1) (by omega)).2.2.2, l1 i (by omega)]
      exact gr i (by omega)
  · by_cases y : i = k
    · subst y
      unfold enO
      rw [t1, if_pos rfl, t2, if_pos rfl, t3, if_pos rfl, t4, if_pos rfl, (sm i (Nat.le_refl _)).1]
      refine ⟨by unfold opn; omega, hpl, hmk, fun q => absurd q (by omega), fun _ => ⟨L, rfl, gs, by omega, by rw [tO, if_pos rfl], by omega, fun _ => hHL⟩, fun q => absurd jo q, fun q => hat (by rw [t1, if_pos rfl] at q; omega) q⟩
    · exact (ge i (by omega)).cg (fun j hj => l1 j (by omega)) (l2 i (by omega)) (l3 i (by omega)) (fun j hj => l4 j (by omega)) (by omega) (fun j hj => by rw [tO, if_neg (by omega)]) hHs
  · refine gC.add gs hHs gHs tO tP (fun i _ q => pdg_cg q (by omega) l1 l3) (Or.inr (Or.inr (Or.inr (Or.inl ⟨ho, by omega⟩)))) (fun _ => Or.inl ⟨k, by omega, by rw [t3, if_pos rfl], by rw [t1, if_pos rfl]; exact jo⟩)
/-- what a sign comes to -/
def sgQ (M : mM) (z r w T A B D N C n p O P K s V F : Nat) (ns : Nat → Int) (d0 : Nat) (H : Nat → Nat) (L k a : Nat) (x : Int) (M' : mM) : Prop := RB M' z r w T A B D N C n p O P K ∧ FI (rdS r p O P) M M' ∧ (∀ i, i ≠ 2 → i ≠ 5 → i ≠ 7 → i ≠ 12 → i ≠ 14 → mI M' r i = mI M r i) ∧ (∀ i, 6 ≤ i → i ≤ 9 → mI M' (r + i) = mI M (r + i)) ∧ (∀ i, i ≠ 2 → mI M' p i = mI M p i) ∧ (∀ i, i < L → mI M' O i = mI M O i ∧ mI M' P i = mI M P i) ∧ ((x = 2 ∧ M' = M) ∨ (x = 0 ∧ ∃ H' L', RG M' r p O P n s V F ns d0 H' L' (k + 1) (a + 1) 1 ∧ L ≤ L' ∧ ∀ i, i ≤ L → H' i = H i))
end
end
