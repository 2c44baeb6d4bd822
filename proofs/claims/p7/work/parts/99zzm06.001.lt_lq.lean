section
section
variable {G : mG} {d a : Nat} {M : mM} {kw : (Nat → Int) → Nat → Nat → Int}
theorem lt_lq (i : Nat) (h : 0 ≤ ln M (mR M a 2)) : lt M a i = lq (txc M a) (txn M a) i := by
  unfold lt lq txn
  by_cases y : (i : Int) < ln M (mR M a 2)
  · rw [if_pos y, if_pos (by omega)]
  · rw [if_neg y, if_neg (by omega)]
end
end
