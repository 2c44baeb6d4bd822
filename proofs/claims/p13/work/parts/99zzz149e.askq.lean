/-! What the questions about the states answer: pure. -/
section ASQ
variable {α : Type} {M : mM} {a g : Nat}
theorem rget (f : Nat → α) (n k : Nat) : ((List.range n).map f)[k]? = if k < n then some (f k) else none := by
  by_cases h : k < n
  · rw [if_pos h, List.getElem?_map, List.getElem?_range h]
    all_goals rfl
  · rw [if_neg h]
    exact List.getElem?_eq_none (by rw [List.length_map, List.length_range]; omega)
/-- state l: its kind and commands -/
def stA9 (T : xt9) (l : Int) : Option (Int × List sc9) := if l < 0 then none else T[l.toNat]?
def kdA9 (T : xt9) (l : Int) : Int := ((stA9 T l).map (fun x => x.1)).getD (-1)
def cnA9 (T : xt9) (l : Int) : Int := ((stA9 T l).map (fun x => ((x.2.length : Nat) : Int))).getD (-1)
/-- command l2 of state l1 -/
def cmA9 (T : xt9) (l1 l2 : Int) : Option sc9 := (stA9 T l1).bind (fun x => if l2 < 0 then none else x.2[l2.toNat]?)
def caA9 (T : xt9) (l1 l2 : Int) : Int := ((cmA9 T l1 l2).map (fun c => (c.1 : Int))).getD (-1)
def bnA9 (T : xt9) (l1 l2 : Int) : Int := ((cmA9 T l1 l2).map (fun c => ((c.2.2.length : Nat) : Int))).getD (-1)
/-- branch l3 of it -/
def bqA9 (c : sc9) (l3 : Int) : Option (Nat × Int) := if l3 < 0 then none else c.2.2[l3.toNat]?
def b1A9 (mu : Int) (l4 : Int) (b : Nat × Int) : Int := if l4 = 0 then (b.1 : Int) else if l4 = 1 then b.2 / (Int.gcd b.2 mu : Int) else if l4 = 2 then mu / (Int.gcd b.2 mu : Int) else -1
def brA9 (T : xt9) (l1 l2 l3 l4 : Int) : Int := ((cmA9 T l1 l2).map (fun c => ((bqA9 c l3).map (b1A9 c.2.1 l4)).getD (-1))).getD (-1)
/-- var l2 in state l1 -/
def vaA9 (S : List (List Int)) (l1 l2 : Int) : Int := ((S[l1.toNat]?).bind (fun x => x[l2.toNat]?)).getD 0
theorem cml_map {m : Nat} : cml M g a m = (List.range m).map (fun t => cmm M g (a + t)) := by
  induction m with
  | zero => rfl
  | succ m ih =>
    rw [List.range_succ, List.map_append, ← ih]
    all_goals rfl
theorem brl_map {m : Nat} : brl M g a m = (List.range m).map (fun t => ((mI M (g + 8) (a + t)).toNat, mI M (g + 9) (a + t))) := by
  induction m with
  | zero => rfl
  | succ m ih =>
    rw [List.range_succ, List.map_append, ← ih]
    all_goals rfl
theorem xtm_map {m : Nat} : xtm M g m = (List.range m).map (stm M g) := by
  induction m with
  | zero => rfl
  | succ m ih =>
    rw [List.range_succ, List.map_append, ← ih]
    all_goals rfl
/-- a share and its multiple, in lowest terms -/
theorem low9 {x y mu : Int} (hx : 0 < x) (hy : 0 < y) (hm : 0 < mu) (g1 : Int.gcd x y = 1) (hd : y ∣ mu) : x * (mu / y) / (Int.gcd (x * (mu / y)) mu : Int) = x ∧ mu / (Int.gcd (x * (mu / y)) mu : Int) = y := by
  obtain ⟨k, hk⟩ := hd
  have k0 : 0 < k := by
    rcases Int.lt_or_le 0 k with u | u
    · exact u
    · have h9 : y * k ≤ y * 0 := Int.mul_le_mul_of_nonneg_left u (Int.le_of_lt hy)
      rw [Int.mul_zero, ← hk] at h9
      omega
  have e1 : mu / y = k := by rw [hk]; exact Int.mul_ediv_cancel_left _ (by omega)
  rw [e1]
  have e2 : Int.gcd (x * k) mu = k.natAbs := by rw [hk, Int.gcd_mul_right, g1, Nat.one_mul]
  have e3 : ((k.natAbs : Nat) : Int) = k := Int.natAbs_of_nonneg (by omega)
  rw [e2, e3]
  exact ⟨Int.mul_ediv_cancel _ (by omega), by rw [hk]; exact Int.mul_ediv_cancel _ (by omega)⟩
end ASQ
