section
section
variable {G : mG} {d a b c r r2 r3 : Nat} {M : mM}
theorem dg_zero {f : Nat → Int} : ∀ n, (∀ j, j < n → f j = 0) → dg f n = 0
  | 0, _ => rfl
  | n + 1, h => by rw [dg, dg_zero n (fun j hj => h j (by omega)), h n (by omega)]; simp
theorem dg_succ (f : Nat → Int) (n : Nat) : dg f (n + 1) = dg f n + f n * 16777216 ^ n := rfl
theorem dg_split {f : Nat → Int} (n k : Nat) : dg f (n + k) = dg f n + dg (fun j => f (n + j)) k * 16777216 ^ n := by
  induction k with
  | zero => simp [dg]
  | succ k ih =>
    show dg f (n + k + 1) = _
    rw [dg, ih, dg, Int.add_mul, Int.pow_add, Int.mul_assoc (f (n + k)), Int.mul_comm (16777216 ^ k)]
    omega
def Hid0 (p : Prop) : Prop := p
end
end
