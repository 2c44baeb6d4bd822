section
section
variable {G : mG} {d z q w T A B D N C n p O P K Ab Be Cm V F c s L L' cnt Bn a d0 V1 F1 nw : Nat} {M0 M M' M1 M2 : mM} {ns ns' ns1 : Nat → Int} {sf ef sf' ef' : Nat → Nat} {H : Nat → Nat} {S R : Nat → Prop} {W pl nq : Nat → Int} {sm : Nat → Nat → Prop} {nms : List nm9} {ft : Int × Int} {zz zr : List Int}
theorem WTq.is (wt : WTq M T A B D n W pl nq sm) (ha : a ≤ n) {y : Int} (h1 : 1 ≤ y) (h2 : y ≤ 38) : mI M A a = y + 1 ↔ W a = y := by
  obtain ⟨u1, u2, -⟩ := wt.1 a ha
  rw [u2]
  exact (csq_w u1).2.2 y h1 h2
theorem rc_t {y : Int} (h : Rc W [50] 0 (y :: zr) a) (e : W a = y) (hy : y < 50) : Rc W [50] 0 zr (a + 1) := h.trans (Rc.one (mst_t hy e.symm))
theorem rf_t {y : Int} (h : Rc W [50] 0 (y :: zr) a) (e : W a ≠ y) (hy : y < 50) : Rf W [50] 0 a := h.rf (Rf.of (mst_tn hy (fun u => e u.symm)))
theorem CT.cg (ct : CT M (q + 1) p nms) (h19 : mI M' (q + 1) 19 = mI M (q + 1) 19) (h6 : mI M' (q + 1 + 6) = mI M (q + 1 + 6)) (h7 : mI M' (q + 1 + 7) = mI M (q + 1 + 7)) (h8 : mI M' (q + 1 + 8) = mI M (q + 1 + 8)) (h9 : mI M' (q + 1 + 9) = mI M (q + 1 + 9)) (p6 : mI M' (p + 6) = mI M (p + 6)) (p7 : mI M' (p + 7) = mI M (p + 7)) : CT M' (q + 1) p nms := by
  unfold CT at ct ⊢
  rw [h19, h6, h7, h8, h9, p6, p7]
  exact ct
theorem CT.tx (ct : CT M (q + 1) p nms) (f : txE M q p O P s M') : CT M' (q + 1) p nms := by
  obtain ⟨f2, -, f4, -, f6, -⟩ := f
  exact ct.cg (f2 19 (by decide) (by decide) (by decide) (by decide) (by decide) (by decide) (by decide) (by decide)) (f4 6 (by omega) (by omega)) (f4 7 (by omega) (by omega)) (f4 8 (by omega) (by omega)) (f4 9 (by omega) (by omega)) (f6 6 (by omega) (by omega)) (f6 7 (by omega) (by omega))
/-- a name is known already -/
def knf (sm : Nat → Nat → Prop) (pl : Nat → Int) (nms : List nm9) (v : Nat) (f2 : Int × Int) : Prop := (fnd9 sm nms v = none → f2 = (0, 0)) ∧ (fnd9 sm nms v ≠ none → f2 = (2, pl v))
/-- what readName comes to, exactly -/
def rnV (W pl : Nat → Int) (sm : Nat → Nat → Prop) (M : mM) (q p c a : Nat) (nms : List nm9) (ft : Int × Int) (zr : List Int) (x : Int) (M' : mM) : Prop := ∃ a' : Nat, mI M' (q + 1) 2 = a' ∧ ((x = 0 ∧ Rf W [50] 0 a') ∨ (x = 1 ∧ a' = a + 2 ∧ W (a + 1) = 1 ∧ Rc W [50] 0 zr (a + 2) ∧ ∃ f2, FT M' (q + 1) (fst9 ft f2) ∧ (CT M (q + 1) p nms → nms.length = c → knf sm pl nms (a + 1) f2)))
end
end
