section
/-! The keywords of class and reference, exactly. -/
section KYX
variable {G : mG}
/-- the kind of a name -/
def kwx (T : Nat → Int) (p e : Nat) : Int := kwq (wlq T p e)
theorem NSx.of (h : LT G) : NSx G kwx := fun d w T A B D N C p n M hO hw h1 h2 h3 => (s_Wo_nameSort h.1 h.2.1 hO hw h1 h3).mono (fun r M' q => ⟨q.1, q.2.1, by
  obtain ⟨-, ⟨r1, r2, r3⟩, r4⟩ := q
  show r = csq (kwq (wlq (mI M T) p (p + n)))
  unfold csq
  rw [if_neg (by omega), if_neg (by omega)]
  exact r4⟩)
theorem WKx.of (h : LT G) : WKx G kwx := fun d a f e M hO hw h1 h2 h3 h4 => s_MM_wordKind h.1 h.2.2 hO hw ⟨by omega, h1, h3⟩ h2
end KYX
end
section
/-! What a rule of consts is worth. A result: (0, a, b) is a over b (a truth: 1 or 0 over 1); (f, p, _) is the fault f at place p. -/
abbrev vrs : Type := Int × Int × Int
def vbd (v : vrs) (f : Int → Int → vrs) : vrs := if v.1 = 0 then f v.2.1 v.2.2 else v
/-- a fraction in least terms, if it is not too large -/
def vst (a b p : Int) : vrs := if 1000000000 ≤ a / (Int.gcd a b : Int) ∨ a / (Int.gcd a b : Int) ≤ -1000000000 ∨ 1000000000 ≤ b / (Int.gcd a b : Int) then (6, p, 0) else (0, a / (Int.gcd a b : Int), b / (Int.gcd a b : Int))
def vtr (p : Prop) [Decidable p] : vrs := if p then (0, 1, 1) else (0, 0, 1)
/-- a sign between two numbers -/
def vop (x a b c d p : Int) : vrs := if x = 24 then vst (a * d + c * b) (b * d) p else if x = 25 then vst (a * d - c * b) (b * d) p else if x = 26 then vst (a * c) (b * d) p else if x = 27 then (if c = 0 then (7, p, 0) else if 0 < c then vst (a * d) (b * c) p else vst (-(a * d)) (-(b * c)) p) else if x = 28 then (if b ≠ 1 ∨ d ≠ 1 then (8, p, 0) else if c ≤ 0 then (7, p, 0) else (0, a % c, 1)) else if x = 18 then vtr (a * d ≠ c * b) else if x = 19 then vtr (a * d ≤ c * b) else if x = 20 then vtr (c * b ≤ a * d) else if x = 21 then vtr (a * d < c * b) else if x = 22 then vtr (c * b < a * d) else vtr (a * d = c * b)
/-- the better of two: x = 14 the least, 15 the most -/
def vbs (x a b c d : Int) : vrs := if x = 14 then (if c * b < a * d then (0, c, d) else (0, a, b)) else (if a * d < c * b then (0, c, d) else (0, a, b))
noncomputable def vlq (w : Nat → Int) (cv : Nat → vrs) (pl : Nat → Int) (c : Nat) (x : Int) (i j : Nat) : vrs :=
  haveI := Classical.propDecidable (lin w i j)
  if hij : i < j then
    if hc : c = 1 then
      if hp : lcq w i (j - i) = 0 then vlq w cv pl 0 0 i j
      else vbd (vlq w cv pl 1 x i (i + lcq w i (j - i) - 1)) (fun a b => vbd (vlq w cv pl 0 0 (i + lcq w i (j - i)) j) (fun e f => vbs x a b e f))
    else if hm : lin w i j then
      if w (loq w i j) = 32 then vbd (vlq w cv pl 0 0 i (loq w i j)) (fun a _ => if a = 0 then vlq w cv pl 0 0 (clq w (loq w i j) j + 1) j else vlq w cv pl 0 0 (loq w i j + 1) (clq w (loq w i j) j))
      else if w (loq w i j) = 29 then vbd (vlq w cv pl 0 0 i (loq w i j)) (fun a b => if a = 0 then (0, a, b) else vlq w cv pl 0 0 (loq w i j + 1) j)
      else if w (loq w i j) = 30 then vbd (vlq w cv pl 0 0 i (loq w i j)) (fun a b => if a = 0 then vlq w cv pl 0 0 (loq w i j + 1) j else (0, a, b))
      else vbd (vlq w cv pl 0 0 i (loq w i j)) (fun a b => vbd (vlq w cv pl 0 0 (loq w i j + 1) j) (fun e f => vop (w (loq w i j)) a b e f (pl (loq w i j))))
    else if w i = 36 then vlq w cv pl 0 0 (i + 1) (j - 1)
    else if w i = 25 then vbd (vlq w cv pl 0 0 (i + 1) j) (fun a b => (0, -a, b))
    else if w i = 31 then vbd (vlq w cv pl 0 0 (i + 1) j) (fun a b => (0, 1 - a, b))
    else if w i = 14 ∨ w i = 15 then vlq w cv pl 1 (w i) (i + 2) (j - 1)
    else cv i
  else (0, 0, 1)
termination_by 2 * (j - i) + c
decreasing_by
  all_goals simp_wf
  all_goals have a1 := lcq_le (w := w) (i := i) (j - i)
  all_goals have a2 := clq_b (w := w) (m := loq w i j) (j := j)
  all_goals first | omega | (have a3 := hm.2; omega)
section VLQ
variable {w pl : Nat → Int} {cv : Nat → vrs} {i j m : Nat} {x : Int}
theorem vl_bin (h : lo w i j = (m : Int)) (h1 : i ≤ m) (h2 : m < j) (h3 : w m ≠ 32) (h4 : w m ≠ 29) (h5 : w m ≠ 30) : vlq w cv pl 0 x i j = vbd (vlq w cv pl 0 0 i m) (fun a b => vbd (vlq w cv pl 0 0 (m + 1) j) (fun e f => vop (w m) a b e f (pl m))) := by
  obtain ⟨a, b⟩ := lin_of h h1 h2
  rw [vlq, dif_pos (by omega), dif_neg (by decide), dif_pos a, b, if_neg h3, if_neg h4, if_neg h5]
theorem vl_and (h : lo w i j = (m : Int)) (h1 : i ≤ m) (h2 : m < j) (h3 : w m = 29) : vlq w cv pl 0 x i j = vbd (vlq w cv pl 0 0 i m) (fun a b => if a = 0 then (0, a, b) else vlq w cv pl 0 0 (m + 1) j) := by
  obtain ⟨a, b⟩ := lin_of h h1 h2
  rw [vlq, dif_pos (by omega), dif_neg (by decide), dif_pos a, b, if_neg (by omega), if_pos h3]
theorem vl_or (h : lo w i j = (m : Int)) (h1 : i ≤ m) (h2 : m < j) (h3 : w m = 30) : vlq w cv pl 0 x i j = vbd (vlq w cv pl 0 0 i m) (fun a b => if a = 0 then vlq w cv pl 0 0 (m + 1) j else (0, a, b)) := by
  obtain ⟨a, b⟩ := lin_of h h1 h2
  rw [vlq, dif_pos (by omega), dif_neg (by decide), dif_pos a, b, if_neg (by omega), if_neg (by omega), if_pos h3]
theorem vl_ask {q : Nat} (h : lo w i j = (m : Int)) (h1 : i ≤ m) (h2 : m < j) (h3 : w m = 32) (hq : clq w m j = q) : vlq w cv pl 0 x i j = vbd (vlq w cv pl 0 0 i m) (fun a _ => if a = 0 then vlq w cv pl 0 0 (q + 1) j else vlq w cv pl 0 0 (m + 1) q) := by
  obtain ⟨a, b⟩ := lin_of h h1 h2
  rw [vlq, dif_pos (by omega), dif_neg (by decide), dif_pos a, b, if_pos h3, hq]
theorem vl_par (h : lo w i j = -1) (hij : i < j) (h3 : w i = 36) : vlq w cv pl 0 x i j = vlq w cv pl 0 0 (i + 1) (j - 1) := by
  rw [vlq, dif_pos hij, dif_neg (by decide), dif_neg (lin_no h), if_pos h3]
theorem vl_neg (h : lo w i j = -1) (hij : i < j) (h3 : w i = 25) : vlq w cv pl 0 x i j = vbd (vlq w cv pl 0 0 (i + 1) j) (fun a b => (0, -a, b)) := by
  rw [vlq, dif_pos hij, dif_neg (by decide), dif_neg (lin_no h), if_neg (by omega), if_pos h3]
theorem vl_not (h : lo w i j = -1) (hij : i < j) (h3 : w i = 31) : vlq w cv pl 0 x i j = vbd (vlq w cv pl 0 0 (i + 1) j) (fun a b => (0, 1 - a, b)) := by
  rw [vlq, dif_pos hij, dif_neg (by decide), dif_neg (lin_no h), if_neg (by omega), if_neg (by omega), if_pos h3]
theorem vl_lst (h : lo w i j = -1) (hij : i < j) (h3 : w i = 14 ∨ w i = 15) : vlq w cv pl 0 x i j = vlq w cv pl 1 (w i) (i + 2) (j - 1) := by
  rw [vlq, dif_pos hij, dif_neg (by decide), dif_neg (lin_no h), if_neg (by omega), if_neg (by omega), if_neg (by omega), if_pos h3]
theorem vl_leaf (h : lo w i j = -1) (hij : i < j) (h3 : w i = 1 ∨ w i = 2 ∨ w i = 12 ∨ w i = 13) : vlq w cv pl 0 x i j = cv i := by
  rw [vlq, dif_pos hij, dif_neg (by decide), dif_neg (lin_no h), if_neg (by omega), if_neg (by omega), if_neg (by omega), if_neg (by omega)]
theorem vl_l1 (hij : i < j) (h : lcq w i (j - i) = 0) : vlq w cv pl 1 x i j = vlq w cv pl 0 0 i j := by
  rw [vlq, dif_pos hij, dif_pos rfl, dif_pos h]
theorem vl_ln (hij : i < j) (h : lcq w i (j - i) = m - i + 1) (hm : i ≤ m) : vlq w cv pl 1 x i j = vbd (vlq w cv pl 1 x i m) (fun a b => vbd (vlq w cv pl 0 0 (m + 1) j) (fun e f => vbs x a b e f)) := by
  rw [vlq, dif_pos hij, dif_pos rfl, dif_neg (by omega), h, show i + (m - i + 1) - 1 = m by first | rfl | omega, show i + (m - i + 1) = m + 1 by first | rfl | omega]
end VLQ
end
section
/-! A hundred steps of Euclid are enough. -/
def fpq : Nat → Nat × Nat
  | 0 => (1, 1)
  | s + 1 => ((fpq s).2, (fpq s).1 + (fpq s).2)
/-- after s steps nothing is left -/
def dnq : Nat → Nat → Nat → Prop
  | 0, _, b => b = 0
  | s + 1, a, b => b = 0 ∨ dnq s b (a % b)
def euq : Nat → Nat → Nat → Nat
  | 0, a, _ => a
  | s + 1, a, b => if b = 0 then a else euq s b (a % b)
theorem dn_fib : ∀ (s a b : Nat), ¬ dnq s a b → (fpq s).1 ≤ b ∧ (b ≤ a → (fpq s).2 ≤ a)
  | 0, a, b, h => by
    have hb : b ≠ 0 := h
    exact ⟨by show 1 ≤ b; omega, fun q => by show 1 ≤ a; omega⟩
  | s + 1, a, b, h => by
    have hb : b ≠ 0 := fun q => h (Or.inl q)
    have h2 : ¬ dnq s b (a % b) := fun q => h (Or.inr q)
    obtain ⟨i1, i2⟩ := dn_fib s b (a % b) h2
    have hlt := Nat.mod_lt a (Nat.pos_of_ne_zero hb)
    have i3 := i2 (Nat.le_of_lt hlt)
    refine ⟨i3, fun q => ?_⟩
    show (fpq s).1 + (fpq s).2 ≤ a
    have e := Nat.mod_add_div a b
    have p : 1 ≤ a / b := Nat.div_pos q (Nat.pos_of_ne_zero hb)
    have m : b * 1 ≤ b * (a / b) := Nat.mul_le_mul_left b p
    omega
theorem eu_gcd : ∀ (s a b : Nat), dnq s a b → euq s a b = Nat.gcd a b
  | 0, a, b, h => by
    have hb : b = 0 := h
    subst hb
    show a = Nat.gcd a 0
    rw [Nat.gcd_zero_right]
  | s + 1, a, b, h => by
    show (if b = 0 then a else euq s b (a % b)) = Nat.gcd a b
    by_cases y : b = 0
    · rw [if_pos y, y, Nat.gcd_zero_right]
    · rw [if_neg y]
      rcases h with h | h
      · exact absurd h y
      · rw [eu_gcd s b (a % b) h, Nat.gcd_comm a b, Nat.gcd_rec b a, Nat.gcd_comm]
theorem dn_99 {a b : Nat} (hb : b ≤ 9223372036854775807) : dnq 99 a b := by
  refine Classical.byContradiction (fun h => ?_)
  have h1 := (dn_fib 99 a b h).1
  have h2 : (fpq 99).1 = 354224848179261915075 := by decide +kernel
  rw [h2] at h1
  omega
theorem dnu9 : ∀ (s a b : Nat), dnq s a b → dnq (s + 1) a b
  | 0, a, b, h => Or.inl h
  | s + 1, a, b, h => by
    rcases h with h | h
    · exact Or.inl h
    · exact Or.inr (dnu9 s b (a % b) h)
theorem eu_100 {a b : Nat} (hb : b ≤ 9223372036854775807) : euq 100 a b = Nat.gcd a b := eu_gcd 100 a b (dnu9 99 a b (dn_99 hb))
end
