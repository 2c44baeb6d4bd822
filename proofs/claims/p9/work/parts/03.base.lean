/-! A shorter dress for contracts: the array classes are fixed (tA), a contract's world comes in and goes out as a list of cells, the frame is joined in one row. -/
section Base
variable {p : Program} {l : Launch} {e : Env} {R : Room} {s : State} {m : MethodId} {args : Array Value} {below : List Frame} {meth : Method} {c : Code} {H : Heap} {locs : List Loc} {cells slots : Nat} {Q : State → Prop}
/-- the array classes -/
abbrev zT (tA : Nat → ClassId) : List (ClassId × FieldType) := [(tA 0, .int), (tA 1, .boolean), (tA 2, .char), (tA 3, .long), (tA 4, .object "ChanceArena$Natural"), (tA 5, .object "ChanceArena$Fraction"), (tA 6, .object "ChanceArenaModel$Fraction")]
end Base
