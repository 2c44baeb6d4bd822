section
section
variable {G : mG} {d a : Nat} {M : mM} {N : Nat}
theorem slv_cons {M : mM} {a : Nat} {st : List Int} (h : mI M a 7 = (c75 st : Int) - c76 st) : slv st = mI M a 7 := h.symm
end
end
