/-! What a rule of consts is worth. A result: (0, a, b) is a over b (a truth: 1 or 0 over 1); (f, p, _) is the fault f at place p. -/
abbrev vrs : Type := Int × Int × Int
def vbd (v : vrs) (f : Int → Int → vrs) : vrs := if v.1 = 0 then f v.2.1 v.2.2 else v
/-- a fraction in least terms, if it is not too large -/
def vst (a b p : Int) : vrs := if 1000000000 ≤ a / (Int.gcd a b : Int) ∨ a / (Int.gcd a b : Int) ≤ -1000000000 ∨ 1000000000 ≤ b / (Int.gcd a b : Int) then (6, p, 0) else (0, a / (Int.gcd a b : Int), b / (Int.gcd a b : Int))
def vtr (p : Prop) [Decidable p] : vrs := if p then (0, 1, 1) else (0, 0, 1)
/-- a sign between two numbers -/
def vop (x a b c d p : Int) : vrs := if x = 24 then vst (a * d + c * b) (b * d) p else if x = 25 then vst (a * d - c * b) (b * d) p else if x = 26 then vst (a * c) (b * d) p else if x = 27 then (if c = 0 then (7, p, 0) else if 0 < c then vst (a * d) (b * c) p else vst (-(a * d)) (-(b * c)) p) else if x = 28 then (if b ≠ 1 ∨ d ≠ 1 then (8, p, 0) else if c ≤ 0 then (7, p, 0) else (0, a % c, 1)) else if x = 18 then vtr (a * d ≠ c * b) else if x = 19 then vtr (a * d ≤ c * b) else if x = 20 then vtr (c * b ≤ a * d) else if x = 21 then vtr (a * d < c * b) else if x = 22 then vtr (c * b < a * d) else vtr (a * d = c * b)
/-- the better of two: x = 14 the least, 15 the most -/
def vbs (x a b c d : Int) : vrs := if x = 14 then (if c * b < a * d then (0, c, d) else (0, a, b)) else (if a * d < c * b then (0, c, d) else (0, a, b))
noncomputable def vlq (w : Nat → Int) (cv : Nat → vrs) (pl : Nat → Int) (c : Nat) (x : Int) (i j : Nat) : vrs :=
  haveI := Classical.propDecidable (lin w i j)
  if hij : i < j then
    if hc : c = 1 then
      if hp : lcq w i (j - i) = 0 then vlq w cv pl 0 0 i j
      else vbd (vlq w cv pl 1 x i (i + lcq w i (j - i) - 1)) (fun a b => vbd (vlq w cv pl 0 0 (i + lcq w i (j - i)) j) (fun e f => vbs x a b e f))
    else if hm : lin w i j then
      if w (loq w i j) = 32 then vbd (vlq w cv pl 0 0 i (loq w i j)) (fun a _ => if a = 0 then vlq w cv pl 0 0 (clq w (loq w i j) j + 1) j else vlq w cv pl 0 0 (loq w i j + 1) (clq w (loq w i j) j))
      else if w (loq w i j) = 29 then vbd (vlq w cv pl 0 0 i (loq w i j)) (fun a b => if a = 0 then (0, a, b) else vlq w cv pl 0 0 (loq w i j + 1) j)
      else if w (loq w i j) = 30 then vbd (vlq w cv pl 0 0 i (loq w i j)) (fun a b => if a = 0 then vlq w cv pl 0 0 (loq w i j + 1) j else (0, a, b))
      else vbd (vlq w cv pl 0 0 i (loq w i j)) (fun a b => vbd (vlq w cv pl 0 0 (loq w i j + 1) j) (fun e f => vop (w (loq w i j)) a b e f (pl (loq w i j))))
    else if w i = 36 then vlq w cv pl 0 0 (i + 1) (j - 1)
    else if w i = 25 then vbd (vlq w cv pl 0 0 (i + 1) j) (fun a b => (0, -a, b))
    else if w i = 31 then vbd (vlq w cv pl 0 0 (i + 1) j) (fun a b => (0, 1 - a, b))
    else if w i = 14 ∨ w i = 15 then vlq w cv pl 1 (w i) (i + 2) (j - 1)
    else cv i
  else (0, 0, 1)
termination_by 2 * (j - i) + c
decreasing_by
  all_goals simp_wf
  all_goals have a1 := lcq_le (w := w) (i := i) (j - i)
  all_goals have a2 := clq_b (w := w) (m := loq w i j) (j := j)
  all_goals first | omega | (have a3 := hm.2; omega)
section VLQ
variable {w pl : Nat → Int} {cv : Nat → vrs} {i j m : Nat} {x : Int}
theorem vl_bin (h : lo w i j = (m : Int)) (h1 : i ≤ m) (h2 : m < j) (h3 : w m ≠ 32) (h4 : w m ≠ 29) (h5 : w m ≠ 30) : vlq w cv pl 0 x i j = vbd (vlq w cv pl 0 0 i m) (fun a b => vbd (vlq w cv pl 0 0 (m + 1) j) (fun e f => vop (w m) a b e f (pl m))) := by
  obtain ⟨a, b⟩ := lin_of h h1 h2
  rw [vlq, dif_pos (by omega), dif_neg (by decide), dif_pos a, b, if_neg h3, if_neg h4, if_neg h5]
theorem vl_and (h : lo w i j = (m : Int)) (h1 : i ≤ m) (h2 : m < j) (h3 : w m = 29) : vlq w cv pl 0 x i j = vbd (vlq w cv pl 0 0 i m) (fun a b => if a = 0 then (0, a, b) else vlq w cv pl 0 0 (m + 1) j) := by
  obtain ⟨a, b⟩ := lin_of h h1 h2
  rw [vlq, dif_pos (by omega), dif_neg (by decide), dif_pos a, b, if_neg (by omega), if_pos h3]
theorem vl_or (h : lo w i j = (m : Int)) (h1 : i ≤ m) (h2 : m < j) (h3 : w m = 30) : vlq w cv pl 0 x i j = vbd (vlq w cv pl 0 0 i m) (fun a b => if a = 0 then vlq w cv pl 0 0 (m + 1) j else (0, a, b)) := by
  obtain ⟨a, b⟩ := lin_of h h1 h2
  rw [vlq, dif_pos (by omega), dif_neg (by decide), dif_pos a, b, if_neg (by omega), if_neg (by omega), if_pos h3]
theorem vl_ask {q : Nat} (h : lo w i j = (m : Int)) (h1 : i ≤ m) (h2 : m < j) (h3 : w m = 32) (hq : clq w m j = q) : vlq w cv pl 0 x i j = vbd (vlq w cv pl 0 0 i m) (fun a _ => if a = 0 then vlq w cv pl 0 0 (q + 1) j else vlq w cv pl 0 0 (m + 1) q) := by
  obtain ⟨a, b⟩ := lin_of h h1 h2
  rw [vlq, dif_pos (by omega), dif_neg (by decide), dif_pos a, b, if_pos h3, hq]
theorem vl_par (h : lo w i j = -1) (hij : i < j) (h3 : w i = 36) : vlq w cv pl 0 x i j = vlq w cv pl 0 0 (i + 1) (j - 1) := by
  rw [vlq, dif_pos hij, dif_neg (by decide), dif_neg (lin_no h), if_pos h3]
theorem vl_neg (h : lo w i j = -1) (hij : i < j) (h3 : w i = 25) : vlq w cv pl 0 x i j = vbd (vlq w cv pl 0 0 (i + 1) j) (fun a b => (0, -a, b)) := by
  rw [vlq, dif_pos hij, dif_neg (by decide), dif_neg (lin_no h), if_neg (by omega), if_pos h3]
theorem vl_not (h : lo w i j = -1) (hij : i < j) (h3 : w i = 31) : vlq w cv pl 0 x i j = vbd (vlq w cv pl 0 0 (i + 1) j) (fun a b => (0, 1 - a, b)) := by
  rw [vlq, dif_pos hij, dif_neg (by decide), dif_neg (lin_no h), if_neg (by omega), if_neg (by omega), if_pos h3]
theorem vl_lst (h : lo w i j = -1) (hij : i < j) (h3 : w i = 14 ∨ w i = 15) : vlq w cv pl 0 x i j = vlq w cv pl 1 (w i) (i + 2) (j - 1) := by
  rw [vlq, dif_pos hij, dif_neg (by decide), dif_neg (lin_no h), if_neg (by omega), if_neg (by omega), if_neg (by omega), if_pos h3]
theorem vl_leaf (h : lo w i j = -1) (hij : i < j) (h3 : w i = 1 ∨ w i = 2 ∨ w i = 12 ∨ w i = 13) : vlq w cv pl 0 x i j = cv i := by
  rw [vlq, dif_pos hij, dif_neg (by decide), dif_neg (lin_no h), if_neg (by omega), if_neg (by omega), if_neg (by omega), if_neg (by omega)]
theorem vl_l1 (hij : i < j) (h : lcq w i (j - i) = 0) : vlq w cv pl 1 x i j = vlq w cv pl 0 0 i j := by
  rw [vlq, dif_pos hij, dif_pos rfl, dif_pos h]
theorem vl_ln (hij : i < j) (h : lcq w i (j - i) = m - i + 1) (hm : i ≤ m) : vlq w cv pl 1 x i j = vbd (vlq w cv pl 1 x i m) (fun a b => vbd (vlq w cv pl 0 0 (m + 1) j) (fun e f => vbs x a b e f)) := by
  rw [vlq, dif_pos hij, dif_pos rfl, dif_neg (by omega), h, show i + (m - i + 1) - 1 = m by omega, show i + (m - i + 1) = m + 1 by omega]
end VLQ
