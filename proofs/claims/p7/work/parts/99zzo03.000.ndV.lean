section
section
variable {G : mG} {d z q w T A B D N C n p O P K Ab Be Cm V F c s L L' cnt Bn a d0 V1 F1 nw : Nat} {M0 M M' M1 M2 : mM} {ns ns' ns1 : Nat → Int} {sf ef sf' ef' : Nat → Nat} {H : Nat → Nat} {S R : Nat → Prop} {W pl nq : Nat → Int} {sm : Nat → Nat → Prop} {nms : List nm9} {ft : Int × Int} {zz zr : List Int}
theorem FT.un {r : Nat} {y : Int × Int} (h : FT M r (fst9 y (0, 0))) : FT M r y := by
  by_cases c : y.1 = 0
  · rw [show fst9 y (0, 0) = (0, 0) from if_pos c] at h
    exact ⟨by rw [h.1, c], fun z => absurd c z⟩
  · rw [show fst9 y (0, 0) = y from if_neg c] at h
    exact h
theorem ECq.to {E : Nat → Int} {Cf : Nat → Int × Int} {co : Int} (h : ECq M' (q + 1) p n W nq sm nms c co E Cf) (f : txE M q p O P s M') : ECq M (q + 1) p n W nq sm nms c co E Cf := by
  obtain ⟨h1, h2⟩ := h
  refine ⟨h1, fun ct hl => ?_⟩
  have k := h2 (ct.tx f) hl
  obtain ⟨-, -, f4, -⟩ := f
  rw [f4 7 (by omega) (by omega), f4 8 (by omega) (by omega)] at k
  exact k
theorem hz34 : ∀ j, lwx (W j) = 3 → Rf W [34, 50] j j := fun j hj => Rf.of (mst_tn (by decide) (fun u => by
  rw [← u] at hj
  exact absurd hj (by decide)))
/-- an item's last rule and its ';', exactly: the rule from word a on, the fault ft before it -/
def ndV (W pl nq : Nat → Int) (sm : Nat → Nat → Prop) (M : mM) (q p O P n c L a : Nat) (nms : List nm9) (co : Int) (ft : Int × Int) (x : Int) (M' : mM) : Prop := ∃ a' : Nat, mI M' (q + 1) 2 = a' ∧ ((x = 0 ∧ Rf W [50] 0 a') ∨ (x = 1 ∧ ∃ (e : Nat) (E : Nat → Int) (Cf : Nat → Int × Int) (L' : Nat), a' = e + 1 ∧ Eo W 6 a e ∧ W e = 34 ∧ Rc W [50] 0 [50] (e + 1) ∧ ECq M (q + 1) p n W nq sm nms c co E Cf ∧ mI M' q 8 = kdq W E 0 a e ∧ FT M' (q + 1) (fst9 ft (fl W E pl 0 a e)) ∧ mI M' p 2 = ((L' + 1 : Nat) : Int) ∧ mI M' O L' = 0 ∧ Cd W Cf pl (mI M' O) (mI M' P) 0 0 0 a e L L' ∧ txF M q p O P L M' ∧ mI M' q 3 = mI M q 3))
end
end
