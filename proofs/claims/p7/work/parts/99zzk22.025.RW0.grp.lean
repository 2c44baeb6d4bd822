section
section
variable {G : mG} {d z r w T A B D N C n p O P K k a s L L' V F d0 c c' : Nat} {M0 M M' M1 M2 : mM} {H H' : Nat → Nat} {ns : Nat → Int} {wt o : Int} {u : Ru}
theorem RW0.grp (v : RW0 u M0 r O P s c c' L a) (g : RG M0 r p O P n s V F ns d0 H L (k + 1) a 0) (hop : mI M0 (r + 1) k = o) (ho : grpO o) (hc : c ≤ rsq o) (hm : lwx (ruW u a) ≤ c' ∨ rsq o < lwx (ruW u a)) (h42 : o = 42 → lwx (ruW u a) ≤ c') (e : gE M0 r p O P k L (gtv (mI M0 (r + 1) k) (mI M0 (r + 5) (skk M0 r k + ckk (mI M0 (r + 1) k)))) (kft (gft (mI M0 (r + 1) k) (mI M0 (r + 4) k) (mI M0 (r + 5) (skk M0 r k)) (mI M0 (r + 5) (skk M0 r k + ckk (mI M0 (r + 1) k)))) (mI M0 (r + 2) k)) M') (hL : mI M' p 2 = L') : RW0 u M' r O P s (cst o) (pst o) L' a := by
  obtain ⟨⟨g1, g2, g3, g4⟩, -, -, gc, -⟩ := g
  have hk : mI M0 r 12 = (k : Int) + 1 := by rw [g2]; rfl
  have sk := (sum_top M0 r k).2.1
  have u0 : uw 0 = 1 := rfl
  rw [hop] at e sk
  obtain ⟨⟨e1, e2, e3⟩, e4, e5, e6, e7, e8⟩ := e
  rw [hop] at e2 e7 e8
  by_cases y1 : o = 40 ∨ o = 41
  · have nj : ¬ jm o := gp_j y1
    obtain ⟨f1, f2, f3⟩ := e7 nj
    have hLL : L' = L + 1 := by omega
    have ck : ckk o = 0 := by unfold ckk; rw [if_neg (gp_k y1)]
    have cd : cdp o = 1 := by unfold cdp; rw [if_pos (gp_d y1)]
    rw [ck] at e5 e6 sk
    rw [cd] at e2
    rw [hLL]
    have tv : gtv o (mI M0 (r + 5) (skk M0 r k + 0)) = if o = 41 then 1 else 0 := gp_v y1
    have gf : gft o (mI M0 (r + 4) k) (mI M0 (r + 5) (skk M0 r k)) (mI M0 (r + 5) (skk M0 r k + 0)) ↔ mI M0 (r + 5) (skk M0 r k) = if o = 41 then 1 else 0 := by
      unfold gft
      rcases y1 with y | y
      · subst y; rw [if_pos rfl, if_neg (by decide)]; exact Iff.rfl
      · subst y; rw [if_neg (by decide), if_pos rfl, if_pos rfl]; exact Iff.rfl
    rw [tv] at e5
    rw [propext gf] at e6
    exact v.gun (kk := skk M0 r k) hk hop y1 hc hm e1 e2 (by rw [gc]; omega) (by rw [e3]; omega) e4 e5 e6 f1 f2
  · by_cases y2 : o = 42
    · subst y2
      obtain ⟨t, t1, f1, f2, f3⟩ := e8 (by unfold jm; omega)
      have hLL : L' = L := by omega
      rw [hLL]
      have tv : gtv 42 (mI M0 (r + 5) (skk M0 r k + ckk 42)) = mI M0 (r + 5) (skk M0 r k) := by unfold gtv; rw [if_neg (by decide), if_pos rfl]; rfl
      have gf : gft 42 (mI M0 (r + 4) k) (mI M0 (r + 5) (skk M0 r k)) (mI M0 (r + 5) (skk M0 r k + ckk 42)) ↔ mI M0 (r + 4) k = if mI M0 (r + 5) (skk M0 r k) = 1 then 4 else 0 := by
        unfold gft
        rw [if_neg (by decide), if_neg (by decide), if_pos rfl]
        exact Iff.rfl
      rw [tv] at e5
      rw [propext gf] at e6
      have ck : ckk 42 = 0 := rfl
      rw [ck] at sk
      exact v.gels (kk := skk M0 r k) (dd := t) hk hop hc (h42 rfl) e1 e2 (by rw [gc]; omega) (by rw [e3]; omega) e4 (fun i => by
        rw [e5]
        split
        · rename_i q; rw [q]
        · rfl) e6 t1 f1 f2
    · have hr : 19 ≤ o ∧ o ≤ 31 := gp_r ho y1 y2
      have ck : ckk o = 1 := by unfold ckk; rw [if_pos hr]
      have cd : cdp o = 0 := by unfold cdp; rw [if_neg (gp_e hr)]
      rw [ck] at e5 e6 sk
      rw [cd] at e2
      have gf : gft o (mI M0 (r + 4) k) (mI M0 (r + 5) (skk M0 r k)) (mI M0 (r + 5) (skk M0 r k + 1)) ↔ okq (o - 1) (mI M0 (r + 5) (skk M0 r k)) (mI M0 (r + 5) (skk M0 r k + 1)) := by
        unfold gft
        rw [if_neg (by omega), if_neg (by omega), if_neg (by omega)]
      rw [propext gf] at e6
      by_cases y3 : o = 30 ∨ o = 31
      · obtain ⟨t, t1, f1, f2, f3⟩ := e8 (gp_jm y3)
        have hLL : L' = L := by omega
        rw [hLL]
        have tv : gtv o (mI M0 (r + 5) (skk M0 r k + 1)) = 1 := by unfold gtv; rw [if_neg (by omega), if_neg (by omega), if_pos (by omega)]
        rw [tv] at e5
        exact v.gjmp (kk := skk M0 r k) (dd := t) hk hop y3 hc hm e1 (by omega) (by rw [gc]; omega) (by rw [e3]; omega) e4 e5 e6 t1 f1 f2
      · obtain ⟨f1, f2, f3⟩ := e7 (gp_nj hr y3)
        have hLL : L' = L + 1 := by omega
        rw [hLL]
        have tv : gtv o (mI M0 (r + 5) (skk M0 r k + 1)) = if o ≤ 24 then 1 else 0 := by unfold gtv; (repeat' split) <;> omega
        rw [tv] at e5
        exact v.gbin (kk := skk M0 r k) hk hop (by omega) hc hm e1 (by omega) (by rw [gc]; omega) (by rw [e3]; omega) e4 e5 e6 f1 f2
end
end
