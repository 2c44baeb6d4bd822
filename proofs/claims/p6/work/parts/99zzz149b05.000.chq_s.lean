section
variable {ev : List Int → Nat → Nat → vrs} {sg : List Int} {b : br9} {r : List br9}
theorem chq_f (h : (ev sg b.2.1.1 b.2.1.2).1 ≠ 0) : chq9 ev sg (b :: r) = (((ev sg b.2.1.1 b.2.1.2).1, (ev sg b.2.1.1 b.2.1.2).2.1), []) := if_pos h
theorem chq_r (h0 : (ev sg b.2.1.1 b.2.1.2).1 = 0) (h : (ev sg b.2.1.1 b.2.1.2).2.1 < 0 ∨ (ev sg b.2.1.1 b.2.1.2).2.2 < (ev sg b.2.1.1 b.2.1.2).2.1) : chq9 ev sg (b :: r) = ((11, b.1), []) := (if_neg (fun u => u h0)).trans (if_pos h)
theorem chq_s (h0 : (ev sg b.2.1.1 b.2.1.2).1 = 0) (h : ¬ ((ev sg b.2.1.1 b.2.1.2).2.1 < 0 ∨ (ev sg b.2.1.1 b.2.1.2).2.2 < (ev sg b.2.1.1 b.2.1.2).2.1)) : chq9 ev sg (b :: r) = ((chq9 ev sg r).1, (ev sg b.2.1.1 b.2.1.2).2 :: (chq9 ev sg r).2) := (if_neg (fun u => u h0)).trans (if_neg h)
end
