/-! The reference's solver: how many unknown states, and how heavy. -/
theorem l_shl1 : ∀ k : Nat, k < 63 → shlL 1 (k : Int) = 2 ^ k := by decide
def sm (f : Nat → Int) : Nat → Int
  | 0 => 0
  | n + 1 => sm f n + f n
theorem sm_congr {f g : Nat → Int} : ∀ (n : Nat), (∀ j, j < n → f j = g j) → sm f n = sm g n
  | 0, _ => rfl
  | n + 1, h => by rw [sm, sm, sm_congr n (fun j hj => h j (by omega)), h n (by omega)]
/-- a state whose value must be worked out -/
abbrev unk (M : mM) (s i : Nat) : Prop := mI M (s + 36) i ≠ 0 ∧ mI M (s + 22) i ≠ 3
/-- w bits hold twice what each command of state i that may be taken is divided by -/
def hvy (M : mM) (s i : Nat) (w : Int) : Prop := 0 ≤ w ∧ w ≤ 32 ∧ ∃ D : Int, 1 ≤ D ∧ 2 * D ≤ 2 ^ w.toNat ∧ ∀ k : Nat, (k : Int) < mny M s i → mayP M s i k → mI M (s + 24) ((mI M (s + 23) i).toNat + k) ≤ D
def lokQ (M : mM) (s : Nat) : Prop := ∃ w : Nat → Int, (∀ i : Nat, (i : Int) < mI M s 1 → (unk M s i → hvy M s i (w i)) ∧ (¬ unk M s i → w i = 0)) ∧ sm w (mI M s 1).toNat ≤ 480 ∧ sm (fun i => if unk M s i then 1 else 0) (mI M s 1).toNat ≤ 40
