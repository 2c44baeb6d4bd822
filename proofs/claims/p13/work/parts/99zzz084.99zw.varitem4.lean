/-! The reference: varItem. -/
section VI4
variable {G : mG} {d a g R W C Z T T2 N K : Nat} {M M2 : mM} {E : Eg9} {tg : Int}
theorem Lc.ub {i j : Nat} {s : Int} {Q : Int → mM → Prop} (h : Lc M a g N T K) (hij : i ≤ j) (hb : Bl (wk M a) i (j - i)) (hj : j < N) (h1 : wk M a j = s) (hs : s = 16 ∨ s = 17 ∨ s = 33) (hQ : Q j M) : Ci G y_MM_until (d + 2) [vr a, vi i, vi s] M Q := by
  refine (s_until_bl (d := d) h.1 h.2.1.1 hij hb hj h1 hs).mono (fun x M1 e1 => ?_)
  obtain ⟨e1, hx⟩ := e1
  subst e1
  rw [hx]
  exact hQ
theorem Lc.io {p i e : Nat} {Q : Int → mM → Prop} (h : Lc M a g N T K) (h1 : p ≤ i) (h2 : i ≤ e) (he : e < N) (hn : ∀ m, p ≤ m → m < i → wk M a m ≠ 9) (hi : i = e ∨ wk M a i = 9) (hQ : Q i M) : Ci G y_MM_initOf (d + 2) [vr a, vi p, vi e] M Q := by
  refine (s_MM_initOf (d := d) h h1 h2 he hn hi).mono (fun x M1 e1 => ?_)
  obtain ⟨e1, hx⟩ := e1
  subst e1
  rw [hx]
  exact hQ
theorem vI.g6 {bl : Int} (v : vI M a g N T K R W C Z bl T2 M2) (h : Df M a g N T K R W C Z E tg) : mI M2 g 6 = R := by rw [v.2.2.1]; exact h.2.1.1
end VI4
