/-! The reference: tree, the whole. -/
section TQ
variable {G : mG} {d a N g T i j : Nat} {M : mM}
/-- a tree more -/
def trQ (M : mM) (a g N T i j : Nat) (r : Int) (M' : mM) : Prop := Mv (trP a g) (fun _ => False) M a M' ∧ r = T ∧ ∃ T', nd M' g T' ∧ T < T' ∧ T' ≤ T + (j - i) ∧ To (nmw (wk M a) N) M' g 0 T T' ∧ np M' g T = -1 ∧ ∀ n, n < T → so M' g n = so M g n ∧ va M' g n = va M g n ∧ fp M' g n = fp M g n ∧ np M' g n = np M g n
theorem s_MM_tree (hO : mOk M) (h : Wx M a N) (hg : g = a + 13 ∨ g = a + 49) (hd : mR M a 10 = g) (hn : nd M g T) (he : Eo (wk M a) 6 i j) (hj : j < N) (hT : T + (j - i) ≤ 32000) : Ci G y_MM_tree (d + 6) [vr a, vi i, vi j] M (trQ M a g N T i j) := by
  have w := h.1.1
  have hN := h.1.2.2
  have hij := he.pr.1
  have r18 : mR M a 18 = a + 91 := w.1.2.2.2.2.1.2.2.2.1
  refine k_MM_tree hO (i32s (by omega) (by omega)) (i32s (by omega) (by omega)) ?_
  rw [r18]
  refine ⟨w.1.1, (w.nu n91).1, fun M1 e1 => ?_⟩
  obtain ⟨m1, l1, -⟩ := mv_set hO w n91 (v := 0) (by omega) (w.nu n91).2.2.2.1.1 e1
  have w1 := m1.2.1
  have no := tL_no hg w
  have rt : mR M a 2 ≠ a + 91 := by rcases w.1.2.1 with y | y <;> rw [y.2] <;> omega
  have x1 : Wx M1 a N := h.mv m1 (fun q hq => by rw [hq]; exact n91) (by omega) (by omega) (by omega) rt
  have d1 : mR M1 a 10 = g := by rw [m1.rfl_a w (fun q hq => by rw [hq]; exact n91)]; exact hd
  have sm : ∀ q, tL g q → sameN M M1 q := fun q hq => m1.lst (tL_in hg hq) (fun z => by rw [z] at hq; exact no.2.2.2.2 hq)
  have n1 : nd M1 g T := fun q hq => by rw [(sm q hq).1]; exact hn q hq
  have gp := w1.gp hg
  have t1 : TI M a g N T [] M1 := ⟨m1.mono (fun q hq => Or.inr hq) (fun x hx => hx) (trP_lt hg w), x1, d1, n1, ⟨l1, fun i hi => by simp at hi⟩, hg⟩
  have s1 : sameT M M1 g := fun n => ⟨(sm _ (by omega)).2.1 n, (sm _ (by omega)).2.1 n, (sm _ (by omega)).2.1 n, (sm _ (by omega)).2.1 n⟩
  have lT : mI M1 (g + 1) 1 = T := n1 (g + 1) (by omega)
  rw [d1, gp.2.1.1, lT]
  refine ⟨gp.1, (w1.nu (tL_in hg (by omega))).1, (s_MM_job (d := d + 4) t1 (by simp) (i32s (by omega) (by omega)) (i32s (by omega) (by omega)) (i32s (by omega) (by omega))).mono (fun M2 h2 => ?_)⟩
  obtain ⟨t2, s2⟩ := h2
  refine ⟨t2.1.1, tr_run (d := d) w (i32s (by omega) (by omega)) (j - i) i j (Nat.le_refl _) he hj M2 T (-1) [] t2 (by omega) (by omega) (fun z => by omega) (by omega) (by simp; omega) (fun M3 T' t3 h1 h2 je to nn => ?_)⟩
  have w3 := t3.2.1.1.1
  have r3 : mR M3 a 18 = a + 91 := w3.1.2.2.2.2.1.2.2.2.1
  have l3 : mI M3 (a + 91) 1 = 0 := t3.2.2.2.2.1.1
  refine k_MM_tree_26 t3.1.1 (i32s (by omega) (by omega)) ?_
  rw [r3, l3]
  refine ⟨w3.1.1, (w3.nu n91).1, fun _ => ⟨t3.1, rfl, T', t3.2.2.2.1, h1, h2, to, nn, fun n hnT => ?_⟩, fun z => by omega⟩
  have s12 := sameT.trans s1 s2
  rcases je.2 with ⟨-, q⟩ | ⟨q, -⟩ | ⟨q, -⟩
  · exact ⟨(je.1 n hnT).1.trans (s12 n).1, (je.1 n hnT).2.trans (s12 n).2.1, (q n hnT).1.trans (s12 n).2.2.1, (q n hnT).2.trans (s12 n).2.2.2⟩
  · omega
  · omega
end TQ
