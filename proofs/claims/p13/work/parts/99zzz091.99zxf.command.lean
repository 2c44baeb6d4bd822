/-! The reference: commandItem. -/
section CO
variable {G : mG} {d a g R W C T Z T2 Z2 N K : Nat} {M M2 M3 : mM} {E : Eg9} {tg : Int}
theorem Df.ci (h : Df M a g N T K R W C Z E tg) : cI M a g N K R W C E tg T Z M :=
  ⟨h.1, iF.refl h.1.1 h.1.2.1.1.1, ⟨rfl, h.2.1.1, h.2.1.2.1⟩, h.2.2.1, fun _ => h.2.2.2.2⟩
end CO
