section
section
variable {G : mG} {d z q w T A B D N C n p O P K Ab Be Cm V F c s L L' cnt Bn a d0 V1 F1 nw : Nat} {M0 M M' M1 M2 : mM} {ns ns' ns1 : Nat → Int} {sf ef sf' ef' : Nat → Nat} {H : Nat → Nat} {S R : Nat → Prop} {W pl nq : Nat → Int} {sm : Nat → Nat → Prop} {nms : List nm9} {ft : Int × Int} {zz zr : List Int}
/-- a const or formula, exactly: its first word a -/
def nmV (W pl nq : Nat → Int) (sm : Nat → Nat → Prop) (M : mM) (q p O P n c F L a : Nat) (nms : List nm9) (co : Int) (ft : Int × Int) (x : Int) (M' : mM) : Prop := ∃ a' : Nat, mI M' (q + 1) 2 = a' ∧ ((x = 0 ∧ Rf W [50] 0 a') ∨ (x = 1 ∧ (W (a + 1) = 1 ∧ W (a + 2) = 23) ∧ ∃ (e : Nat) (E : Nat → Int) (Cf : Nat → Int × Int) (L' : Nat) (f2 : Int × Int), a' = e + 1 ∧ Eo W 6 (a + 3) e ∧ W e = 34 ∧ Rc W [50] 0 [50] (e + 1) ∧ ECq M (q + 1) p n W nq sm nms c co E Cf ∧ mI M' q 8 = kdq W E 0 (a + 3) e ∧ (CT M (q + 1) p nms → nms.length = c → knf sm pl nms (a + 1) f2) ∧ FT M' (q + 1) (fst9 (fst9 (fst9 ft (if F < 60 then (0, 0) else (5, pl a))) f2) (fl W E pl 0 (a + 3) e)) ∧ mI M' p 2 = ((L' + 1 : Nat) : Int) ∧ mI M' O L' = 0 ∧ Cd W Cf pl (mI M' O) (mI M' P) 0 0 0 (a + 3) e L L' ∧ txF M q p O P L M' ∧ mI M' q 3 = ((a + 1 : Nat) : Int)))
end
end
