section
section
variable {G : mG} {d z q w T A B D N C n p O P K Ab Be Cm V F c s s' L L' cnt Bn a d0 V1 F1 nw k e s9 : Nat} {M0 M M' M1 M2 : mM} {ns ns' ns1 : Nat → Int} {sf ef sf' ef' : Nat → Nat} {H : Nat → Nat} {S R : Nat → Prop} {W pl nq E : Nat → Int} {Cf : Nat → Int × Int} {cv : Nat → vrs} {sm : Nat → Nat → Prop} {nms : List nm9} {ft : Int × Int}
/-- the fault of a value, which must be whole if l2 is not 0 -/
def wuf (l2 : Int) (v : vrs) (pp : Int) : Int × Int := if l2 = 0 then (if v.1 ≠ 0 then (v.1, v.2.1) else (0, 0)) else wh9 v pp
/-- working out a rule, exactly -/
def wuV (q : Nat) (l2 : Int) (v : vrs) (pp : Int) (x : Int) (M' : mM) : Prop := (x = 0 ∧ (wuf l2 v pp).1 ≠ 0 ∧ FT M' (q + 1) (wuf l2 v pp)) ∨ (x = 1 ∧ (wuf l2 v pp).1 = 0 ∧ v.1 = 0 ∧ FT M' (q + 1) (0, 0) ∧ ptq M' (q + 11) 0 v.2.1 v.2.2)
/-- the program's cells stay -/
theorem wu_p {Ab Be : Nat} (h : TX M z q w T A B D N C n p O P K Ab Be Cm V F ns sf ef c cnt L) (fa : FA (fun x => x = q + 1 ∨ mcS (q + 11) Ab Be x) (fun x => x = q + 11) M M') : ∀ i, i ≤ 15 → mI M' (p + i) = mI M (p + i) := fun i hi => by
  have qp := h.1.2.2.2.2.2.1.2.1
  have pk := h.1.1.2.2.2.2.1
  obtain ⟨a1, a2, -, -⟩ := h.1.2.2.2.1.2.2.2.2.2.1
  have o4 := pk.2.2.2.1.2.2.2
  have zz := pk.2.2.2.2.1.1
  refine (fa.2 (p + i) (by omega)).2.2.2.2 (fun y => ?_)
  have y' : p + i = q + 1 ∨ p + i = q + 11 ∨ p + i = q + 11 + 2 ∨ (q + 11 + 5 ≤ p + i ∧ p + i ≤ q + 11 + 9) ∨ p + i = Ab ∨ p + i = Be := y
  clear fa h pk
  omega
/-- what else stays -/
def wkK (q p : Nat) (M M' : mM) : Prop := mI M' (q + 22) = mI M (q + 22) ∧ mI M' (p + 6) = mI M (p + 6) ∧ mI M' (p + 7) = mI M (p + 7)
end
end
