section
section
variable {G : mG} {d z q w T A B D N C n p O P K Ab Be Cm V F c s L cnt a k e ix nbr : Nat} {M0 M M' M1 M2 : mM} {ns : Nat → Int} {sf ef : Nat → Nat} {W pl nq : Nat → Int} {sm : Nat → Nat → Prop} {nms : List nm9} {ft : Int × Int}
/-- names and counts stay -/
def cmK (q p : Nat) (M M' : mM) : Prop := mI M' (q + 1) 19 = mI M (q + 1) 19 ∧ (∀ i, 6 ≤ i → i ≤ 9 → mI M' (q + 1 + i) = mI M (q + 1 + i)) ∧ (∀ i, i ≠ 2 → mI M' p i = mI M p i) ∧ mI M' (p + 6) = mI M (p + 6) ∧ mI M' (p + 7) = mI M (p + 7)
theorem cmK.refl : cmK q p M M := ⟨rfl, fun _ _ _ => rfl, fun _ _ => rfl, rfl, rfl⟩
theorem cmK.trans (h : cmK q p M M1) (k : cmK q p M1 M2) : cmK q p M M2 := ⟨k.1.trans h.1, fun i i6 i9 => (k.2.1 i i6 i9).trans (h.2.1 i i6 i9), fun i i2 => (k.2.2.1 i i2).trans (h.2.2.1 i i2), k.2.2.2.1.trans h.2.2.2.1, k.2.2.2.2.trans h.2.2.2.2⟩
theorem cmK.tx (f : txE M q p O P s M') : cmK q p M M' := ⟨f.1 19 (by decide) (by decide) (by decide) (by decide) (by decide) (by decide) (by decide) (by decide), f.2.2.1, f.2.2.2.1, f.2.2.2.2.1 6 (by decide) (by decide), f.2.2.2.2.1 7 (by decide) (by decide)⟩
theorem CT.cm (ct : CT M (q + 1) p nms) (k : cmK q p M M') : CT M' (q + 1) p nms := ct.cg k.1 (k.2.1 6 (by decide) (by decide)) (k.2.1 7 (by decide) (by decide)) (k.2.1 8 (by decide) (by decide)) (k.2.1 9 (by decide) (by decide)) k.2.2.2.1 k.2.2.2.2
theorem hz33 : ∀ j, lwx (W j) = 3 → Rf W [33, 58, 57, 34, 50] j j := fun j hj => Rf.of (mst_tn (by decide) (fun u => by
  rw [← u] at hj
  exact absurd hj (by first | decide | simp)))
/-- a chance has been read, exactly -/
def chV (W pl nq : Nat → Int) (sm : Nat → Nat → Prop) (q p O P n c L ix a : Nat) (nms : List nm9) (ft : Int × Int) (M : mM) (x : Int) (M' : mM) : Prop := ∃ a' : Nat, mI M' (q + 1) 2 = a' ∧ ((x = 0 ∧ Rf W [50] 0 a') ∨ (x = 1 ∧ ∃ (j : Nat) (E : Nat → Int), a' = j + 1 ∧ W j = 33 ∧ Eo W 6 a j ∧ Rc W [50] 0 [58, 57, 34, 50] (j + 1) ∧ FT M' (q + 1) (fst9 ft (vrf W E pl 0 a j)) ∧ (CT M (q + 1) p nms → nms.length = c → E = E9 sm nms 0) ∧ cmK q p M M' ∧ ∃ Cf : Nat → Int × Int, chD W pl nq sm Cf q p O P n c L ix a j nms M M'))
end
end
