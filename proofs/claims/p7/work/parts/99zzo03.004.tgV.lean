section
section
variable {G : mG} {d z q w T A B D N C n p O P K Ab Be Cm V F c s L L' cnt Bn a d0 V1 F1 nw : Nat} {M0 M M' M1 M2 Mc : mM} {ns ns' ns1 : Nat → Int} {sf ef sf' ef' : Nat → Nat} {H : Nat → Nat} {S R : Nat → Prop} {W pl nq : Nat → Int} {sm : Nat → Nat → Prop} {nms : List nm9} {ft : Int × Int} {zz zr : List Int}
/-- names and counts stay -/
def tgK (q p : Nat) (M M' : mM) : Prop := mI M' (q + 1) 19 = mI M (q + 1) 19 ∧ (∀ i, 6 ≤ i → i ≤ 9 → mI M' (q + 1 + i) = mI M (q + 1 + i)) ∧ (∀ i, i ≠ 2 → i ≠ 11 → mI M' p i = mI M p i) ∧ mI M' (p + 6) = mI M (p + 6) ∧ mI M' (p + 7) = mI M (p + 7)
theorem tgK.trans (h : tgK q p M M1) (k : tgK q p M1 M2) : tgK q p M M2 := ⟨k.1.trans h.1, fun i i6 i9 => (k.2.1 i i6 i9).trans (h.2.1 i i6 i9), fun i i2 i1 => (k.2.2.1 i i2 i1).trans (h.2.2.1 i i2 i1), k.2.2.2.1.trans h.2.2.2.1, k.2.2.2.2.trans h.2.2.2.2⟩
theorem tgK.tx (f : txE M q p O P s M') : tgK q p M M' := ⟨f.1 19 (by decide) (by decide) (by decide) (by decide) (by decide) (by decide) (by decide) (by decide), f.2.2.1, fun i i2 _ => f.2.2.2.1 i i2, f.2.2.2.2.1 6 (by decide) (by decide), f.2.2.2.2.1 7 (by decide) (by decide)⟩
theorem CT.tg (ct : CT M (q + 1) p nms) (k : tgK q p M M') : CT M' (q + 1) p nms := ct.cg k.1 (k.2.1 6 (by decide) (by decide)) (k.2.1 7 (by decide) (by decide)) (k.2.1 8 (by decide) (by decide)) (k.2.1 9 (by decide) (by decide)) k.2.2.2.1 k.2.2.2.2
/-- a target's orders lie from the code's end on -/
def tgD (W pl : Nat → Int) (Cf : Nat → Int × Int) (p O P L a e : Nat) (M M' : mM) : Prop := mI M' p 11 = ((L : Nat) : Int) ∧ (∀ i, 3 ≤ i → i ≤ 15 → mI M' (p + i) = mI M (p + i)) ∧ ∃ L' : Nat, mI M' p 2 = ((L' + 1 : Nat) : Int) ∧ mI M' O L' = 0 ∧ Cd W Cf pl (mI M' O) (mI M' P) 0 0 0 (a + 1) e L L' ∧ cdE O P L M M'
/-- a target, exactly: the rule from word a + 1 on, the fault ft before it -/
def tgV (W pl nq : Nat → Int) (sm : Nat → Nat → Prop) (M : mM) (q p O P n c L a : Nat) (nms : List nm9) (ft : Int × Int) (x : Int) (M' : mM) : Prop := ∃ a' : Nat, mI M' (q + 1) 2 = a' ∧ ((x = 0 ∧ Rf W [50] 0 a') ∨ (x = 1 ∧ mI M' p 11 ≠ -1 ∧ ∃ (e : Nat) (E : Nat → Int) (Cf : Nat → Int × Int), a' = e + 1 ∧ Eo W 6 (a + 1) e ∧ W e = 34 ∧ Rc W [50] 0 [50] (e + 1) ∧ ECq M (q + 1) p n W nq sm nms c 0 E Cf ∧ FT M' (q + 1) (fst9 (fst9 ft (fl W E pl 0 (a + 1) e)) (kft (kdq W E 0 (a + 1) e = 1) (pl (a + 1)))) ∧ tgK q p M M' ∧ tgD W pl Cf p O P L a e M M'))
end
end
