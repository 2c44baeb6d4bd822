section
/-- the first entries of an array, the last of them first -/
def Ls (f : Nat → Int) : List Int → Prop
  | [] => True
  | x :: t => f t.length = x ∧ Ls f t
end
