section
variable {G : mG} {d z g p O P K V F L cnt Ab Be C Ab0 Be0 C0 n N c cc u v k : Nat} {M0 M M' M1 : mM} {ns : Nat → Int} {sf ef : Nat → Nat} {F1 : Nat} {ns1 : Nat → Int} {sf1 ef1 : Nat → Nat} {W pl nq : Nat → Int} {sm : Nat → Nat → Prop} {nms : List nm9} {sgL : List Int} {brs : List br9}
/-- what weighing comes to -/
def weY (ch : (Int × Int) × List (Int × Int)) (pc : Int) (g V F : Nat) (ns W pl nq : Nat → Int) (sm : Nat → Nat → Prop) (N : Nat) (nms : List nm9) (k : Nat) (sgL : List Int) (cc nb : Nat) (r : Int) (M' : mM) : Prop := (ch.1.1 ≠ 0 ∧ r = ch.1.1 ∧ mI M' g 10 = ch.1.2) ∨ (ch.1.1 = 0 ∧ muq9 ch.2 1 = 0 ∧ r = 6 ∧ mI M' g 10 = pc) ∨ (ch.1.1 = 0 ∧ muq9 ch.2 1 ≠ 0 ∧ smq9 (muq9 ch.2 1) ch.2 ≠ muq9 ch.2 1 ∧ r = 11 ∧ mI M' g 10 = pc) ∨ (ch.1.1 = 0 ∧ muq9 ch.2 1 ≠ 0 ∧ smq9 (muq9 ch.2 1) ch.2 = muq9 ch.2 1 ∧ r = 0 ∧ mI M' (g + 6) cc = muq9 ch.2 1 ∧ lch9 M' g nb = ch.2 ∧ gst9 M' g V F ns W pl nq sm N nms k (fun v => sgL.getD v 0))
theorem we_end (hx : GX M0 z g p O P K V F1 ns1 sf1 ef1 L cnt Ab0 Be0 C0 M Ab Be C) (hw : wgF M1 g M) (hc : c < cnt) (hn : v - u ≤ 8) (hch : chz M g (v - u)) (hcc : mI M g 12 = ((cc : Nat) : Int)) (hcc2 : cc ≤ 4096) (hcc1 : mI M1 g 12 = ((cc : Nat) : Int)) (st : gst9 M g V F ns W pl nq sm N nms k (fun v => sgL.getD v 0)) {ch : (Int × Int) × List (Int × Int)} (e : ch = ((0, 0), lch9 M g (v - u))) : h_Ga_weighChances_150 G (d + 1) g c ((v - u : Nat) : Int) 1 0 M (fun r M' => weQ M0 z g p O P K V F1 ns1 sf1 ef1 L cnt Ab0 Be0 C0 M1 (v - u) cc r M' ∧ weY ch (mI M0 (p + 10) c) g V F ns W pl nq sm N nms k sgL cc (v - u) r M') := by
  have key := x_we150 (G := G) (d := d) hx hw hc hn hch hcc hcc2 hcc1 (v - u) 0 1 (by omega) (by omega) ⟨by omega, by omega⟩ rfl (fun b hb => absurd hb (by omega))
  refine mWm.mono key (fun r9 M' ⟨x, ex, q1, q2⟩ => ⟨x, ex, q1, ?_⟩)
  rw [gx_p hx 10 (by omega)] at q2
  rw [e]
  rcases q2 with ⟨a1, a2, a3⟩ | ⟨a1, a2, a3, a4⟩ | ⟨a1, a2, a3, a4, f⟩
  · exact Or.inr (Or.inl ⟨rfl, a1, a2, a3⟩)
  · exact Or.inr (Or.inr (Or.inl ⟨rfl, a1, a2, a3, a4⟩))
  · have nb : ∀ y, y ≠ g + 6 → mI M' y = mI M y := fun y hy => f.2.2.2.2.2.2 y hy
    exact Or.inr (Or.inr (Or.inr ⟨rfl, a1, a2, a3, a4, lch_cg _ (fun b _ => by rw [nb (g + 21) (by omega), nb (g + 22) (by omega)]; exact ⟨rfl, rfl⟩), st.cg (fun i _ => by rw [nb (g + 10) (by omega)]) (fun v _ => by rw [nb (g + 1) (by omega)]) (nb _ (by omega)) (nb _ (by omega)) (nb _ (by omega))⟩))
end
