/-! The reference: a way's chance grows, or a way is new. -/
section AWY
variable {G : mG} {d a g T R W C Z n L w w0 : Nat} {M M' M2 M3 M4 : mM} {E : Eg9} {tg mul Sm : Int} {B : Nat → Nat}
/-- the command that is being explored -/
def Op (M : mM) (a L w0 w : Nat) (mul Sm : Int) : Prop := w0 ≤ w ∧ (nt M (a + 111) L = (w0 : Int) ∧ nt M (a + 113) L = ((w - w0 : Nat) : Int) ∧ nt M (a + 115) L = mul) ∧ (1 ≤ mul ∧ mul < 1000000000) ∧ (∀ j : Nat, w0 ≤ j → j < w → mL M (a + 21187) j ∣ mul) ∧ sm (fun t => mL M (a + 21186) (w0 + t) * (mul / mL M (a + 21187) (w0 + t))) (w - w0) = Sm
theorem sm_upd {f f' : Nat → Int} {t0 : Nat} : ∀ (n : Nat), t0 < n → (∀ t, t < n → t ≠ t0 → f' t = f t) → sm f' n = sm f n - f t0 + f' t0
  | 0, h, _ => absurd h (by omega)
  | n + 1, h, k => by
    show sm f' n + f' n = sm f n + f n - f t0 + f' t0
    by_cases z : t0 = n
    · have : sm f' n = sm f n := sm_congr n (fun t ht => k t (by omega) (by omega))
      rw [this, z]
      omega
    · have := sm_upd n (by omega) (fun t ht hne => k t (by omega) hne)
      rw [this, k n (by omega) (fun y => z y.symm)]
      omega
theorem sm_le1 {f : Nat → Int} {t0 : Nat} : ∀ (n : Nat), t0 < n → (∀ t, t < n → 0 ≤ f t) → f t0 ≤ sm f n
  | 0, h, _ => absurd h (by omega)
  | n + 1, h, k => by
    show f t0 ≤ sm f n + f n
    have kn := k n (by omega)
    by_cases z : t0 = n
    · have : 0 ≤ sm f n := by
        clear h z
        induction n with
        | zero => exact Int.le_refl 0
        | succ n ih =>
          show 0 ≤ sm f n + f n
          have := ih (fun t ht => k t (by omega)) (k n (by omega))
          have := k n (by omega)
          omega
      rw [z]; omega
    · have := sm_le1 (f := f) (t0 := t0) n (by omega) (fun t ht => k t (by omega))
      omega
end AWY
