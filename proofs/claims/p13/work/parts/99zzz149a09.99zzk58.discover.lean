/-! The class's game: discover. -/
section GAJ
variable {G : mG} {d z g p O P K V F L cnt U w9 Ab Be C Ab0 Be0 C0 s h t c cn k u v cc n bc bc0 x a0 br mu cn0 : Nat} {M0 M M' M1 M2 MB : mM} {ns : Nat → Int} {sf ef : Nat → Nat} {H : Nat → Nat} {S R : Nat → Prop} {sm sh : Int}
/-- all states are found: a game of cn states -/
def GE (M : mM) (g cn : Nat) : Prop := ∃ cc bc : Nat, 1 ≤ cn ∧ GQ M g cn (cn - 1) cc bc ∧ GS M g (cn - 1)
/-- what discover comes to -/
def dcQ (M0 : mM) (z g p O P K V F : Nat) (ns : Nat → Int) (sf ef : Nat → Nat) (L cnt Ab0 Be0 C0 : Nat) (st : Int) (r : Int) (M' : mM) : Prop := i32 r ∧ (∃ U w9 Ab Be C, (U = g + 1 ∨ U = g + 11) ∧ GY U w9 M0 z g p O P K V F ns sf ef L cnt Ab0 Be0 C0 M' Ab Be C) ∧ (mI M' (g + 10) 9 ≤ st + 512 ∧ st ≤ mI M' (g + 10) 9) ∧ (r = 0 → ∃ cn : Nat, GE M' g cn) ∧ (r ≠ 0 → mI M' g 0 = 0 ∧ mI M' g 12 = 0 ∧ mI M' g 13 = 0)
end GAJ
