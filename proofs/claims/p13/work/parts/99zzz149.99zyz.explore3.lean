/-! The reference: explore. -/
section EXP3
variable {G : mG} {d a g T R W C Z : Nat} {M M1 : mM} {E : Eg9} {tg : Int} {Nt9 : tP9}
end EXP3
