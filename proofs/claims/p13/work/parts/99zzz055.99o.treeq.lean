/-! The reference: tree, the whole. -/
section TQ
variable {G : mG} {d a N g T i j : Nat} {M : mM}
/-- a tree more -/
def trQ (M : mM) (a g N T i j : Nat) (r : Int) (M' : mM) : Prop := Mv (trP a g) (fun _ => False) M a M' ∧ r = T ∧ ∃ T', nd M' g T' ∧ T < T' ∧ T' ≤ T + (j - i) ∧ To (nmw (wk M a) N) M' g 0 T T' ∧ np M' g T = -1 ∧ ∀ n, n < T → so M' g n = so M g n ∧ va M' g n = va M g n ∧ fp M' g n = fp M g n ∧ np M' g n = np M g n
end TQ
