/-! The reference: a state is explored. -/
section STB
variable {G : mG} {d a g T R W C Z n L w k : Nat} {M : mM} {E : Eg9} {tg : Int} {B : Nat → Nat}
end STB
