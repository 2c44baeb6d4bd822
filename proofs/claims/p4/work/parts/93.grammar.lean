/-! The reference: the grammar of the text. -/
def ex50 (nx : Int) : Option (List Int × Nat) := if nx = 0 then some ([], 1) else if nx = 3 ∨ nx = 6 then some ([51, 34, 50], 1) else if nx = 4 then some ([1, 33, 53, 54, 34, 50], 1) else if nx = 7 ∨ nx = 8 then some ([61, 17, 56, 57, 34, 50], 1) else if nx = 11 then some ([61, 34, 50], 1) else none
def ex51 (nx : Int) : Option (List Int × Nat) := some ([1, 23, 61], 0)
def ex53 (nx : Int) : Option (List Int × Nat) := if nx = 5 then some ([], 1) else some ([61, 16, 61], 0)
def ex54 (nx : Int) : Option (List Int × Nat) := if nx = 9 then some ([61], 1) else some ([], 0)
def ex56 (nx : Int) : Option (List Int × Nat) := some ([63, 33, 58], 0)
def ex57 (nx : Int) : Option (List Int × Nat) := if nx = 24 then some ([56, 57], 1) else some ([], 0)
def ex58 (nx : Int) : Option (List Int × Nat) := if nx = 10 then some ([], 1) else some ([59, 60], 0)
def ex59 (nx : Int) : Option (List Int × Nat) := if nx = 36 then some ([1, 38, 23, 61, 37, 75], 1) else none
def ex60 (nx : Int) : Option (List Int × Nat) := if nx = 29 then some ([59, 60], 1) else some ([], 0)
def ex61 (nx : Int) : Option (List Int × Nat) := some ([63, 62], 0)
def ex62 (nx : Int) : Option (List Int × Nat) := if nx = 32 then some ([61, 33, 61, 75], 1) else some ([], 0)
def ex63 (nx : Int) : Option (List Int × Nat) := some ([65, 64], 0)
def ex64 (nx : Int) : Option (List Int × Nat) := if nx = 30 then some ([65, 64], 1) else some ([], 0)
def ex65 (nx : Int) : Option (List Int × Nat) := some ([67, 66], 0)
def ex66 (nx : Int) : Option (List Int × Nat) := if nx = 29 then some ([67, 66], 1) else some ([], 0)
def ex67 (nx : Int) : Option (List Int × Nat) := if nx = 31 then some ([67, 75], 1) else some ([69, 68], 0)
def ex68 (nx : Int) : Option (List Int × Nat) := if 18 ≤ nx ∧ nx ≤ 23 then some ([69], 1) else some ([], 0)
def ex69 (nx : Int) : Option (List Int × Nat) := some ([71, 70], 0)
def ex70 (nx : Int) : Option (List Int × Nat) := if nx = 24 ∨ nx = 25 then some ([71, 70], 1) else some ([], 0)
def ex71 (nx : Int) : Option (List Int × Nat) := some ([73, 72], 0)
def ex72 (nx : Int) : Option (List Int × Nat) := if nx = 26 ∨ nx = 27 ∨ nx = 28 then some ([73, 72], 1) else some ([], 0)
def ex73 (nx : Int) : Option (List Int × Nat) := if nx = 1 ∨ nx = 2 ∨ nx = 12 ∨ nx = 13 then some ([], 1) else if nx = 14 ∨ nx = 15 then some ([76, 61, 74, 37, 75], 1) else if nx = 25 then some ([73, 75], 1) else if nx = 36 then some ([61, 37, 75], 1) else none
def ex74 (nx : Int) : Option (List Int × Nat) := if nx = 35 then some ([61, 74], 1) else some ([], 0)
def ex76 (nx : Int) : Option (List Int × Nat) := if nx = 36 then some ([], 1) else none
/-- what a sign of the grammar becomes before the word nx, top first, and how many words it takes -/
def ex (x nx : Int) : Option (List Int × Nat) := if x = 50 then ex50 nx else if x = 51 then ex51 nx else if x = 53 then ex53 nx else if x = 54 then ex54 nx else if x = 56 then ex56 nx else if x = 57 then ex57 nx else if x = 58 then ex58 nx else if x = 59 then ex59 nx else if x = 60 then ex60 nx else if x = 61 then ex61 nx else if x = 62 then ex62 nx else if x = 63 then ex63 nx else if x = 64 then ex64 nx else if x = 65 then ex65 nx else if x = 66 then ex66 nx else if x = 67 then ex67 nx else if x = 68 then ex68 nx else if x = 69 then ex69 nx else if x = 70 then ex70 nx else if x = 71 then ex71 nx else if x = 72 then ex72 nx else if x = 73 then ex73 nx else if x = 74 then ex74 nx else if x = 76 then ex76 nx else none
theorem ex_50 {nx : Int} : ex 50 nx = ex50 nx := rfl
theorem ex_51 {nx : Int} : ex 51 nx = ex51 nx := rfl
theorem ex_53 {nx : Int} : ex 53 nx = ex53 nx := rfl
theorem ex_54 {nx : Int} : ex 54 nx = ex54 nx := rfl
theorem ex_56 {nx : Int} : ex 56 nx = ex56 nx := rfl
theorem ex_57 {nx : Int} : ex 57 nx = ex57 nx := rfl
theorem ex_58 {nx : Int} : ex 58 nx = ex58 nx := rfl
theorem ex_59 {nx : Int} : ex 59 nx = ex59 nx := rfl
theorem ex_60 {nx : Int} : ex 60 nx = ex60 nx := rfl
theorem ex_61 {nx : Int} : ex 61 nx = ex61 nx := rfl
theorem ex_62 {nx : Int} : ex 62 nx = ex62 nx := rfl
theorem ex_63 {nx : Int} : ex 63 nx = ex63 nx := rfl
theorem ex_64 {nx : Int} : ex 64 nx = ex64 nx := rfl
theorem ex_65 {nx : Int} : ex 65 nx = ex65 nx := rfl
theorem ex_66 {nx : Int} : ex 66 nx = ex66 nx := rfl
theorem ex_67 {nx : Int} : ex 67 nx = ex67 nx := rfl
theorem ex_68 {nx : Int} : ex 68 nx = ex68 nx := rfl
theorem ex_69 {nx : Int} : ex 69 nx = ex69 nx := rfl
theorem ex_70 {nx : Int} : ex 70 nx = ex70 nx := rfl
theorem ex_71 {nx : Int} : ex 71 nx = ex71 nx := rfl
theorem ex_72 {nx : Int} : ex 72 nx = ex72 nx := rfl
theorem ex_73 {nx : Int} : ex 73 nx = ex73 nx := rfl
theorem ex_74 {nx : Int} : ex 74 nx = ex74 nx := rfl
theorem ex_76 {nx : Int} : ex 76 nx = ex76 nx := rfl
/-- the signs -/
def sgs : List Int := [50, 51, 53, 54, 56, 57, 58, 59, 60, 61, 62, 63, 64, 65, 66, 67, 68, 69, 70, 71, 72, 73, 74, 75, 76, 1, 16, 17, 23, 33, 34, 37, 38]
/-- how high the pile grows over a sign -/
def hgt (x : Int) : Nat := if x = 50 then 11 else if x = 51 then 6 else if x = 53 then 8 else if x = 54 then 6 else if x = 56 then 7 else if x = 57 then 8 else if x = 58 then 1 else if x = 60 then 1 else if x = 61 then 6 else if x = 63 then 5 else if x = 64 then 5 else if x = 65 then 4 else if x = 66 then 4 else if x = 67 then 3 else if x = 68 then 2 else if x = 69 then 2 else if x = 70 then 2 else if x = 71 then 1 else if x = 72 then 1 else if x = 74 then 7 else 0
/-- how much there is to do for a sign -/
def wgt (x : Int) : Nat := if x = 51 then 16 else if x = 53 then 28 else if x = 56 then 16 else if x = 58 then 3 else if x = 61 then 13 else if x = 63 then 11 else if x = 65 then 9 else if x = 67 then 7 else if x = 69 then 5 else if x = 71 then 3 else 1
def c75 : List Int → Nat
  | [] => 0
  | x :: r => (if x = 75 then 1 else 0) + c75 r
def c76 : List Int → Nat
  | [] => 0
  | x :: r => (if x = 76 then 1 else 0) + c76 r
def swt : List Int → Nat
  | [] => 0
  | x :: r => wgt x + swt r
/-- the pile is not too high anywhere -/
def hbd : List Int → Prop
  | [] => True
  | x :: r => r.length + hgt x ≤ 11 + 9 * c75 r ∧ hbd r
/-- what is put down in place of x fits below h -/
def fits (h : Nat) : List Int → Bool
  | [] => true
  | y :: r => decide (r.length + hgt y ≤ h + 9 * c75 r) && fits h r
def chk (x : Int) (ys : List Int) (t : Nat) : Bool := fits (hgt x) ys && ys.all (fun y => sgs.contains y) && !(ys.tail.contains 76) && (decide (t = 0 ∨ t = 1)) && (decide (swt ys + 1 ≤ wgt x + 40 * t)) && (decide (t = 0 → swt ys + 1 ≤ wgt x)) && (decide (x = 50 → ys = [] ∨ (ys.getLast? = some 50 ∧ !(ys.dropLast.contains 50)))) && (decide (x ≠ 50 → !(ys.contains 50)))
theorem ex_chk {x nx : Int} {ys : List Int} {t : Nat} (h : ex x nx = some (ys, t)) : chk x ys t = true := by
  unfold ex at h
  by_cases q50 : x = 50
  · rw [if_pos q50] at h
    subst q50
    unfold ex50 at h
    by_cases c0 : nx = 0
    · rw [if_pos c0] at h; cases h; decide
    rw [if_neg c0] at h
    by_cases c1 : nx = 3 ∨ nx = 6
    · rw [if_pos c1] at h; cases h; decide
    rw [if_neg c1] at h
    by_cases c2 : nx = 4
    · rw [if_pos c2] at h; cases h; decide
    rw [if_neg c2] at h
    by_cases c3 : nx = 7 ∨ nx = 8
    · rw [if_pos c3] at h; cases h; decide
    rw [if_neg c3] at h
    by_cases c4 : nx = 11
    · rw [if_pos c4] at h; cases h; decide
    rw [if_neg c4] at h
    cases h
  rw [if_neg q50] at h
  by_cases q51 : x = 51
  · rw [if_pos q51] at h
    subst q51
    unfold ex51 at h
    cases h; decide
  rw [if_neg q51] at h
  by_cases q53 : x = 53
  · rw [if_pos q53] at h
    subst q53
    unfold ex53 at h
    by_cases c0 : nx = 5
    · rw [if_pos c0] at h; cases h; decide
    rw [if_neg c0] at h
    cases h; decide
  rw [if_neg q53] at h
  by_cases q54 : x = 54
  · rw [if_pos q54] at h
    subst q54
    unfold ex54 at h
    by_cases c0 : nx = 9
    · rw [if_pos c0] at h; cases h; decide
    rw [if_neg c0] at h
    cases h; decide
  rw [if_neg q54] at h
  by_cases q56 : x = 56
  · rw [if_pos q56] at h
    subst q56
    unfold ex56 at h
    cases h; decide
  rw [if_neg q56] at h
  by_cases q57 : x = 57
  · rw [if_pos q57] at h
    subst q57
    unfold ex57 at h
    by_cases c0 : nx = 24
    · rw [if_pos c0] at h; cases h; decide
    rw [if_neg c0] at h
    cases h; decide
  rw [if_neg q57] at h
  by_cases q58 : x = 58
  · rw [if_pos q58] at h
    subst q58
    unfold ex58 at h
    by_cases c0 : nx = 10
    · rw [if_pos c0] at h; cases h; decide
    rw [if_neg c0] at h
    cases h; decide
  rw [if_neg q58] at h
  by_cases q59 : x = 59
  · rw [if_pos q59] at h
    subst q59
    unfold ex59 at h
    by_cases c0 : nx = 36
    · rw [if_pos c0] at h; cases h; decide
    rw [if_neg c0] at h
    cases h
  rw [if_neg q59] at h
  by_cases q60 : x = 60
  · rw [if_pos q60] at h
    subst q60
    unfold ex60 at h
    by_cases c0 : nx = 29
    · rw [if_pos c0] at h; cases h; decide
    rw [if_neg c0] at h
    cases h; decide
  rw [if_neg q60] at h
  by_cases q61 : x = 61
  · rw [if_pos q61] at h
    subst q61
    unfold ex61 at h
    cases h; decide
  rw [if_neg q61] at h
  by_cases q62 : x = 62
  · rw [if_pos q62] at h
    subst q62
    unfold ex62 at h
    by_cases c0 : nx = 32
    · rw [if_pos c0] at h; cases h; decide
    rw [if_neg c0] at h
    cases h; decide
  rw [if_neg q62] at h
  by_cases q63 : x = 63
  · rw [if_pos q63] at h
    subst q63
    unfold ex63 at h
    cases h; decide
  rw [if_neg q63] at h
  by_cases q64 : x = 64
  · rw [if_pos q64] at h
    subst q64
    unfold ex64 at h
    by_cases c0 : nx = 30
    · rw [if_pos c0] at h; cases h; decide
    rw [if_neg c0] at h
    cases h; decide
  rw [if_neg q64] at h
  by_cases q65 : x = 65
  · rw [if_pos q65] at h
    subst q65
    unfold ex65 at h
    cases h; decide
  rw [if_neg q65] at h
  by_cases q66 : x = 66
  · rw [if_pos q66] at h
    subst q66
    unfold ex66 at h
    by_cases c0 : nx = 29
    · rw [if_pos c0] at h; cases h; decide
    rw [if_neg c0] at h
    cases h; decide
  rw [if_neg q66] at h
  by_cases q67 : x = 67
  · rw [if_pos q67] at h
    subst q67
    unfold ex67 at h
    by_cases c0 : nx = 31
    · rw [if_pos c0] at h; cases h; decide
    rw [if_neg c0] at h
    cases h; decide
  rw [if_neg q67] at h
  by_cases q68 : x = 68
  · rw [if_pos q68] at h
    subst q68
    unfold ex68 at h
    by_cases c0 : 18 ≤ nx ∧ nx ≤ 23
    · rw [if_pos c0] at h; cases h; decide
    rw [if_neg c0] at h
    cases h; decide
  rw [if_neg q68] at h
  by_cases q69 : x = 69
  · rw [if_pos q69] at h
    subst q69
    unfold ex69 at h
    cases h; decide
  rw [if_neg q69] at h
  by_cases q70 : x = 70
  · rw [if_pos q70] at h
    subst q70
    unfold ex70 at h
    by_cases c0 : nx = 24 ∨ nx = 25
    · rw [if_pos c0] at h; cases h; decide
    rw [if_neg c0] at h
    cases h; decide
  rw [if_neg q70] at h
  by_cases q71 : x = 71
  · rw [if_pos q71] at h
    subst q71
    unfold ex71 at h
    cases h; decide
  rw [if_neg q71] at h
  by_cases q72 : x = 72
  · rw [if_pos q72] at h
    subst q72
    unfold ex72 at h
    by_cases c0 : nx = 26 ∨ nx = 27 ∨ nx = 28
    · rw [if_pos c0] at h; cases h; decide
    rw [if_neg c0] at h
    cases h; decide
  rw [if_neg q72] at h
  by_cases q73 : x = 73
  · rw [if_pos q73] at h
    subst q73
    unfold ex73 at h
    by_cases c0 : nx = 1 ∨ nx = 2 ∨ nx = 12 ∨ nx = 13
    · rw [if_pos c0] at h; cases h; decide
    rw [if_neg c0] at h
    by_cases c1 : nx = 14 ∨ nx = 15
    · rw [if_pos c1] at h; cases h; decide
    rw [if_neg c1] at h
    by_cases c2 : nx = 25
    · rw [if_pos c2] at h; cases h; decide
    rw [if_neg c2] at h
    by_cases c3 : nx = 36
    · rw [if_pos c3] at h; cases h; decide
    rw [if_neg c3] at h
    cases h
  rw [if_neg q73] at h
  by_cases q74 : x = 74
  · rw [if_pos q74] at h
    subst q74
    unfold ex74 at h
    by_cases c0 : nx = 35
    · rw [if_pos c0] at h; cases h; decide
    rw [if_neg c0] at h
    cases h; decide
  rw [if_neg q74] at h
  by_cases q76 : x = 76
  · rw [if_pos q76] at h
    subst q76
    unfold ex76 at h
    by_cases c0 : nx = 36
    · rw [if_pos c0] at h; cases h; decide
    rw [if_neg c0] at h
    cases h
  rw [if_neg q76] at h
  cases h
